section
variable {xt xd xm : Int32} {lS oS tS fS le fi se si ra tz st ru sk : Nat → Int32}
theorem xr_clear {post : SX → Prop} {row : Nat} (hr : row + 4 ≤ 4656)
    (h : ∀ ru' : Nat → Int32, (∀ j, j < row ∨ row + 4 ≤ j → ru' j = ru j) → (∀ q, q < 4 → ru' (row + q) = nI 0) → post (xt, xd, xm, lS, oS, tS, fS, le, fi, se, si, ra, tz, st, ru', sk)) :
    wpX_clearRuns post (xt, xd, xm, lS, oS, tS, fS, le, fi, se, si, ra, tz, st, ru, sk) (nI row) := by
  refine loop_0 (fun n i (r : Nat → Int32) => wX_clearRuns_2 post (nI row) xt xd xm n (nI i) lS oS tS fS le fi se si ra tz st r sk)
    (fun i r => (∀ j, j < row ∨ row + 4 ≤ j → r j = ru j) ∧ ∀ q, q < i → r (row + q) = nI 0) 4 ru ⟨fun _ _ => rfl, fun q hq => absurd hq (Nat.not_lt_zero q)⟩ ?_ ?_
  · intro n r I
    exact br_t (by decide) (h r I.1 I.2)
  · intro n i r hi I K
    have hn : ¬ (4 : Int32) ≤ nI i := nI_ge (b := 4) hi (by decide)
    have e := nI_add row i
    refine br_f hn ⟨pk_in (row + i) 4656 (by omega) e, nm_r (e' := upd r (row + i) (nI 0)) (by rw [pk_cl (row + i) e]; rfl) (nm_r (nI_1 i) (K _ ⟨?_, ?_⟩))⟩
    · intro j hj
      rw [pk_un (by omega)]; exact I.1 j hj
    · intro q hq
      by_cases eq : q = i
      · subst eq; exact pk_us
      · rw [pk_un (by omega)]; exact I.2 q (by omega)
theorem xr_add {post : SX → Prop} {row : Nat} {set s more : Int32} {v : Nat} (P : Nat → Nat) (hr : row + 4 ≤ 4656) (hs : set = s) (hm : more = nI v)
    (hP : ∀ q, q < 4 → ru (row + q) = nI (P q))
    (h : ∀ ru' : Nat → Int32, (∀ j, j < row ∨ row + 4 ≤ j → ru' j = ru j) → (∀ q, q < 4 → ru' (row + q) = nI (P q + tl_bi s q v)) → post (xt, xd, xm, lS, oS, tS, fS, le, fi, se, si, ra, tz, st, ru', sk)) :
    wpX_addRuns post (xt, xd, xm, lS, oS, tS, fS, le, fi, se, si, ra, tz, st, ru, sk) (nI row) set more := by
  subst hs hm
  refine loop_0 (fun n i (r : Nat → Int32) => wX_addRuns_3 post (nI row) set (nI v) xt xd xm n (nI i) lS oS tS fS le fi se si ra tz st r sk)
    (fun i r => (∀ j, j < row ∨ row + 4 ≤ j → r j = ru j) ∧ (∀ q, q < i → r (row + q) = nI (P q + tl_bi set q v)) ∧ ∀ q, i ≤ q → q < 4 → r (row + q) = nI (P q)) 4 ru ⟨fun _ _ => rfl, fun q hq => absurd hq (Nat.not_lt_zero q), fun q _ hq => hP q hq⟩ ?_ ?_
  · intro n r I
    exact br_t (by decide) (h r I.1 I.2.1)
  · intro n i r hi I K
    have hn : ¬ (4 : Int32) ≤ nI i := nI_ge (b := 4) hi (by decide)
    have e := nI_add row i
    refine br_f hn ?_
    by_cases hb : bt set i = true
    · have hb0 : ¬ ((set >>> (nI i &&& 31)) &&& 1) = 0 := by rw [tl_bit0 set (by omega), hb]; decide
      refine br_f hb0 ⟨pk_in (row + i) 4656 (by omega) e, pk_in (row + i) 4656 (by omega) e, nm_r (e' := upd r (row + i) (nI (P i + v))) ?_ (nm_r (nI_1 i) (K _ ⟨?_, ?_, ?_⟩))⟩
      · rw [pk_cl (row + i) e, I.2.2 i (Nat.le_refl i) hi, nI_add]
      · intro j hj
        rw [pk_un (by omega)]; exact I.1 j hj
      · intro q hq
        by_cases eq : q = i
        · subst eq
          rw [pk_us]; unfold tl_bi; rw [if_pos hb]
        · rw [pk_un (by omega)]; exact I.2.1 q (by omega)
      · intro q hq hq4
        rw [pk_un (by omega)]; exact I.2.2 q (by omega) hq4
    · have hb0 : ((set >>> (nI i &&& 31)) &&& 1) = 0 := by rw [tl_bit0 set (by omega)]; simpa using hb
      refine br_t hb0 (nm_r (nI_1 i) (K _ ⟨I.1, ?_, fun q hq hq4 => I.2.2 q (by omega) hq4⟩))
      intro q hq
      by_cases eq : q = i
      · subst eq
        rw [I.2.2 q (Nat.le_refl q) hi]; unfold tl_bi; rw [if_neg hb]; rfl
      · exact I.2.1 q (by omega)
theorem xr_row (m t : Nat) : (nI m * 582 + nI t) * 4 = nI ((m * 582 + t) * 4) := by
  rw [show (582 : Int32) = nI 582 from rfl, show (4 : Int32) = nI 4 from rfl, pk_mul, nI_add, pk_mul]
theorem xr_one {post : SX → Prop} {m t c : Nat} (w : Nat → Nat) (hm : m < 2) (ht : t < 582) (hc : c < t) (hf : fi t = nI c)
    (hw : ∀ p, p < 4 → ru ((m * 582 + c) * 4 + p) = nI (w p)) (h0 : ∀ q, q < 4 → ru ((m * 582 + t) * 4 + q) = nI 0)
    (h : ∀ ru' : Nat → Int32, (∀ j, j < (m * 582 + t) * 4 ∨ (m * 582 + t) * 4 + 4 ≤ j → ru' j = ru j) →
      (∀ q, q < 4 → ru' ((m * 582 + t) * 4 + q) = nI (tl_sum (fun p => tl_bi (oS (4 * m + p)) q (w p)) 4)) → post (xt, xd, xm, lS, oS, tS, fS, le, fi, se, si, ra, tz, st, ru', sk)) :
    wpX_countOneRuns post (xt, xd, xm, lS, oS, tS, fS, le, fi, se, si, ra, tz, st, ru, sk) (nI m) (nI t) (nI ((m * 582 + t) * 4)) := by
  refine ⟨vp_in_nI ht (by decide), ?_⟩
  show ∃ n, wX_countOneRuns_16 post (nI m) (nI ((m * 582 + t) * 4)) ((nI m * 582 + fi (nI t).toNatClampNeg) * 4) n 0 xt xd xm lS oS tS fS le fi se si ra tz st ru sk
  rw [nI_clamp (by omega : t < 2 ^ 31), hf, xr_row]
  refine loop_0 (fun n i (r : Nat → Int32) => wX_countOneRuns_16 post (nI m) (nI ((m * 582 + t) * 4)) (nI ((m * 582 + c) * 4)) n (nI i) xt xd xm lS oS tS fS le fi se si ra tz st r sk)
    (fun i r => (∀ j, j < (m * 582 + t) * 4 ∨ (m * 582 + t) * 4 + 4 ≤ j → r j = ru j) ∧ (∀ q, q < 4 → r ((m * 582 + t) * 4 + q) = nI (tl_sum (fun p => tl_bi (oS (4 * m + p)) q (w p)) i))) 4 ru ⟨fun _ _ => rfl, h0⟩ ?_ ?_
  · intro n r I
    exact br_t (by decide) (h r I.1 I.2)
  · intro n i r hi I K
    have hn : ¬ (4 : Int32) ≤ nI i := nI_ge (b := 4) hi (by decide)
    have e1 : nI m * 4 + nI i = nI (4 * m + i) := by rw [show (4 : Int32) = nI 4 from rfl, pk_mul, nI_add, Nat.mul_comm]
    have e2 := nI_add ((m * 582 + c) * 4) i
    refine br_f hn ⟨pk_in (4 * m + i) 8 (by omega) e1, pk_in ((m * 582 + c) * 4 + i) 4656 (by omega) e2, ?_⟩
    refine xr_add (s := oS (4 * m + i)) (v := w i) (fun q => tl_sum (fun p => tl_bi (oS (4 * m + p)) q (w p)) i) (by omega) ?_ ?_ I.2 ?_
    · rw [pk_cl (4 * m + i) e1]
    · rw [pk_cl ((m * 582 + c) * 4 + i) e2, I.1 _ (by omega), hw i hi]
    · intro ru' f g
      exact nm_r (nI_1 i) (K ru' ⟨fun j hj => (f j hj).trans (I.1 j hj), g⟩)
theorem xr_two {post : SX → Prop} {m t c d : Nat} (w v : Nat → Nat) (hm : m < 2) (ht : t < 582) (hc : c < t) (hd : d < t) (hf : fi t = nI c) (hg : se t = nI d)
    (hw : ∀ p, p < 4 → ru ((m * 582 + c) * 4 + p) = nI (w p)) (hv : ∀ p, p < 4 → ru ((m * 582 + d) * 4 + p) = nI (v p)) (h0 : ∀ q, q < 4 → ru ((m * 582 + t) * 4 + q) = nI 0)
    (h : ∀ ru' : Nat → Int32, (∀ j, j < (m * 582 + t) * 4 ∨ (m * 582 + t) * 4 + 4 ≤ j → ru' j = ru j) →
      (∀ q, q < 4 → ru' ((m * 582 + t) * 4 + q) = nI (tl_sum (fun j => tl_bi (tS (16 * m + j)) q (w (j % 4) * v (j / 4))) 16)) → post (xt, xd, xm, lS, oS, tS, fS, le, fi, se, si, ra, tz, st, ru', sk)) :
    wpX_countTwoRuns post (xt, xd, xm, lS, oS, tS, fS, le, fi, se, si, ra, tz, st, ru, sk) (nI m) (nI t) (nI ((m * 582 + t) * 4)) := by
  refine ⟨vp_in_nI ht (by decide), vp_in_nI ht (by decide), ?_⟩
  show ∃ n, wX_countTwoRuns_29 post (nI m) (nI ((m * 582 + t) * 4)) ((nI m * 582 + fi (nI t).toNatClampNeg) * 4) ((nI m * 582 + se (nI t).toNatClampNeg) * 4) n 0 xt xd xm lS oS tS fS le fi se si ra tz st ru sk
  rw [nI_clamp (by omega : t < 2 ^ 31), hf, hg, xr_row, xr_row]
  refine loop_0 (fun n i (r : Nat → Int32) => wX_countTwoRuns_29 post (nI m) (nI ((m * 582 + t) * 4)) (nI ((m * 582 + c) * 4)) (nI ((m * 582 + d) * 4)) n (nI i) xt xd xm lS oS tS fS le fi se si ra tz st r sk)
    (fun i r => (∀ j, j < (m * 582 + t) * 4 ∨ (m * 582 + t) * 4 + 4 ≤ j → r j = ru j) ∧ (∀ q, q < 4 → r ((m * 582 + t) * 4 + q) = nI (tl_sum (fun j => tl_bi (tS (16 * m + j)) q (w (j % 4) * v (j / 4))) i))) 16 ru ⟨fun _ _ => rfl, h0⟩ ?_ ?_
  · intro n r I
    exact br_t (by decide) (h r I.1 I.2)
  · intro n i r hi I K
    have hn : ¬ (16 : Int32) ≤ nI i := nI_ge (b := 16) hi (by decide)
    have e1 : nI m * 16 + nI i = nI (16 * m + i) := by rw [show (16 : Int32) = nI 16 from rfl, pk_mul, nI_add, Nat.mul_comm]
    have e2 := nI_add ((m * 582 + c) * 4) (i % 4)
    have e3 := nI_add ((m * 582 + d) * 4) (i / 4)
    refine br_f hn ⟨by decide, nm_r (pk_rem (a := i) (d := 4) (by omega) (by decide) (by decide)) ⟨by decide, nm_r (pk_div (a := i) (d := 4) (by omega) (by decide) (by decide)) ⟨pk_in (16 * m + i) 32 (by omega) e1, pk_in ((m * 582 + c) * 4 + i % 4) 4656 (by omega) e2, pk_in ((m * 582 + d) * 4 + i / 4) 4656 (by omega) e3, ?_⟩⟩⟩
    refine xr_add (s := tS (16 * m + i)) (v := w (i % 4) * v (i / 4)) (fun q => tl_sum (fun j => tl_bi (tS (16 * m + j)) q (w (j % 4) * v (j / 4))) i) (by omega) ?_ ?_ I.2 ?_
    · rw [pk_cl (16 * m + i) e1]
    · rw [pk_cl ((m * 582 + c) * 4 + i % 4) e2, pk_cl ((m * 582 + d) * 4 + i / 4) e3, I.1 _ (by omega), I.1 _ (by omega), hw _ (by omega), hv _ (by omega), pk_mul]
    · intro ru' f g
      exact nm_r (nI_1 i) (K ru' ⟨fun j hj => (f j hj).trans (I.1 j hj), g⟩)
end
