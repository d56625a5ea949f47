section
variable {xt xd xm : Int32} {lS oS tS fS le fi se si ra tz st ru sk : Nat → Int32}
variable {l c d z : Nat → Nat}
/-- the component's arrays hold the trees below T -/
def xr_TA (T : Nat) (l c d : Nat → Nat) (le fi se : Nat → Int32) : Prop := ∀ t, t < T → le t = nI (l t) ∧ (2 ≤ l t → fi t = nI (c t)) ∧ (l t = 3 → se t = nI (d t))
theorem xr_rowP {post : Int32 → Prop} {m t : Nat} (h : post (nI ((m * 582 + t) * 4))) : wpX_rowOfRuns post (xt, xd, xm, lS, oS, tS, fS, le, fi, se, si, ra, tz, st, ru, sk) (nI m) (nI t) := by
  show post ((nI m * 582 + nI t) * 4)
  rw [xr_row]; exact h
theorem xr_all {post : SX → Prop} {m T : Nat} (hm : m < 2) (hT : T ≤ 582) (tp : tl_TP T l c d z) (ta : xr_TA T l c d le fi se)
    (h : ∀ ru' : Nat → Int32, (∀ j, j < m * 2328 → ru' j = ru j) → (∀ t, t < T → ∀ q, q < 4 → ru' ((m * 582 + t) * 4 + q) = nI (tl_w lS oS tS m l c d t q)) → post (xt, xd, xm, lS, oS, tS, fS, le, fi, se, si, ra, tz, st, ru', sk)) :
    wpX_countRuns post (xt, xd, xm, lS, oS, tS, fS, le, fi, se, si, ra, tz, st, ru, sk) (nI m) (nI T) := by
  refine loop_0 (fun n i (r : Nat → Int32) => wX_countRuns_2 post (nI m) (nI T) n (nI i) xt xd xm lS oS tS fS le fi se si ra tz st r sk)
    (fun i r => (∀ j, j < m * 2328 → r j = ru j) ∧ (∀ t, t < i → ∀ q, q < 4 → r ((m * 582 + t) * 4 + q) = nI (tl_w lS oS tS m l c d t q))) T ru ⟨fun _ _ => rfl, fun t ht => absurd ht (Nat.not_lt_zero t)⟩ ?_ ?_
  · intro n r I
    exact br_t (nI_le (Nat.le_refl T) (by omega)) (h r I.1 I.2)
  · intro n i r hi I K
    have hn : ¬ nI T ≤ nI i := nI_ge hi (by omega)
    obtain ⟨a1, a2, a3⟩ := ta i hi
    obtain ⟨b1, b2, b3, _⟩ := tp i hi
    have hin : vp_in (nI i) 582 := vp_in_nI (by omega) (by decide)
    have hcl : (nI i).toNatClampNeg = i := nI_clamp (by omega)
    have hK : ∀ r' r'' : Nat → Int32, (∀ j, j < (m * 582 + i) * 4 ∨ (m * 582 + i) * 4 + 4 ≤ j → r' j = r j) → (∀ j, j < (m * 582 + i) * 4 ∨ (m * 582 + i) * 4 + 4 ≤ j → r'' j = r' j) →
        (∀ q, q < 4 → r'' ((m * 582 + i) * 4 + q) = nI (tl_w lS oS tS m l c d i q)) → wX_countRuns_2 post (nI m) (nI T) n (nI (i + 1)) xt xd xm lS oS tS fS le fi se si ra tz st r'' sk := by
      intro r' r'' f g e
      refine K r'' ⟨fun j hj => ?_, fun t ht q hq => ?_⟩
      · rw [g j (by omega), f j (by omega), I.1 j hj]
      · by_cases et : t = i
        · subst et; exact e q hq
        · rw [g _ (by omega), f _ (by omega), I.2 t (by omega) q hq]
    refine br_f hn ?_
    refine xr_rowP ?_
    refine xr_clear (by omega) ?_
    intro r' f f0
    refine ⟨hin, ?_⟩
    by_cases e3 : l i = 3
    · refine br_t (by rw [hcl, a1, e3]; rfl) ?_
      have hc := b2 (by omega)
      have hd := b3 e3
      refine xr_two (tl_w lS oS tS m l c d (c i)) (tl_w lS oS tS m l c d (d i)) hm (by omega) hc hd (a2 (by omega)) (a3 e3) ?_ ?_ f0 ?_
      · intro p hp; rw [f _ (by omega)]; exact I.2 _ hc p hp
      · intro p hp; rw [f _ (by omega)]; exact I.2 _ hd p hp
      · intro r'' g e
        exact nm_r (nI_1 i) (hK r' r'' f g (fun q hq => by rw [e q hq, tl_w3 tp hi e3]))
    · refine br_f (by rw [hcl, a1]; exact fun z => e3 ((nI_eq (by omega) (by decide)).mp z)) ⟨hin, ?_⟩
      by_cases e2 : l i = 2
      · refine br_t (by rw [hcl, a1, e2]; rfl) ?_
        have hc := b2 (by omega)
        refine xr_one (tl_w lS oS tS m l c d (c i)) hm (by omega) hc (a2 (by omega)) ?_ f0 ?_
        · intro p hp; rw [f _ (by omega)]; exact I.2 _ hc p hp
        · intro r'' g e
          exact nm_r (nI_1 i) (hK r' r'' f g (fun q hq => by rw [e q hq, tl_w2 tp hi e2]))
      · have e1 : nI m * 2 + le (nI i).toNatClampNeg = nI (2 * m + l i) := by rw [hcl, a1, show (2 : Int32) = nI 2 from rfl, pk_mul, nI_add, Nat.mul_comm]
        refine br_f (by rw [hcl, a1]; exact fun z => e2 ((nI_eq (by omega) (by decide)).mp z)) ⟨hin, pk_in (2 * m + l i) 4 (by omega) e1, ?_⟩
        refine xr_add (s := lS (2 * m + l i)) (v := 1) (fun _ => 0) (by omega) ?_ rfl f0 ?_
        · rw [pk_cl (2 * m + l i) e1]
        · intro r'' g e
          exact nm_r (nI_1 i) (hK r' r'' f g (fun q hq => by rw [e q hq, tl_w1 tp hi (by omega), Nat.zero_add]))
theorem xr_fin {post : Int32 → Prop} {m t : Nat} (w : Nat → Nat) (hm : m < 2) (ht : t < 582) (hw : ∀ q, q < 4 → ru ((m * 582 + t) * 4 + q) = nI (w q))
    (h : post (nI (tl_sum (fun q => tl_bi (fS m) q (w q)) 4))) : wpX_finalRuns post (xt, xd, xm, lS, oS, tS, fS, le, fi, se, si, ra, tz, st, ru, sk) (nI m) (nI t) := by
  show ∃ n, wX_finalRuns_13 post (nI m) ((nI m * 582 + nI t) * 4) xt xd xm lS oS tS fS le fi se si ra tz st ru sk n 0 0
  rw [xr_row]
  refine loop_0 (fun n i (r : Int32) => wX_finalRuns_13 post (nI m) (nI ((m * 582 + t) * 4)) xt xd xm lS oS tS fS le fi se si ra tz st ru sk n r (nI i))
    (fun i r => r = nI (tl_sum (fun q => tl_bi (fS m) q (w q)) i)) 4 0 rfl ?_ ?_
  · intro n r I
    exact br_t (by decide) (by rw [I]; exact h)
  · intro n i r hi I K
    have hn : ¬ (4 : Int32) ≤ nI i := nI_ge (b := 4) hi (by decide)
    have e := nI_add ((m * 582 + t) * 4) i
    have hcl : (nI m).toNatClampNeg = m := nI_clamp (by omega)
    refine br_f hn ⟨vp_in_nI hm (by decide), ?_⟩
    by_cases hb : bt (fS m) i = true
    · refine br_f (by rw [hcl, tl_bit0 _ (by omega), hb]; decide) ⟨pk_in ((m * 582 + t) * 4 + i) 4656 (by omega) e, nm_r (e' := nI (tl_sum (fun q => tl_bi (fS m) q (w q)) (i + 1))) ?_ (nm_r (nI_1 i) (K _ rfl))⟩
      rw [pk_cl _ e, hw i hi, I, nI_add]
      show _ = nI (tl_sum (fun q => tl_bi (fS m) q (w q)) i + tl_bi (fS m) i (w i))
      unfold tl_bi; rw [if_pos hb]
    · refine br_t (by rw [hcl, tl_bit0 _ (by omega)]; simpa using hb) (nm_r (nI_1 i) (K _ ?_))
      show r = nI (tl_sum (fun q => tl_bi (fS m) q (w q)) i + tl_bi (fS m) i (w i))
      rw [I]; unfold tl_bi; rw [if_neg hb]; rfl
theorem tl_shl1 {i j : Nat} (hi : i < 4) : bt ((1 : Int32) <<< (nI i &&& 31)) j = decide (j = i) := by
  rcases Nat.lt_or_ge j 32 with hj | hj
  · rw [b_shl i (by omega) 1 hj]
    by_cases e : j = i
    · subst e; rw [Nat.sub_self]; simp [tl_b1]
    · by_cases h2 : i ≤ j
      · rw [tl_b1 _ (by omega), decide_eq_false (by omega : ¬ j - i = 0), Bool.and_false, decide_eq_false e]
      · rw [decide_eq_false h2, Bool.false_and, decide_eq_false e]
  · rw [b_big hj, decide_eq_false (by omega)]
theorem xr_sot {post : Int32 → Prop} {m t : Nat} (w : Nat → Nat) (hm : m < 2) (ht : t < 582) (hw : ∀ q, q < 4 → ru ((m * 582 + t) * 4 + q) = nI (w q)) (hb : ∀ q, q < 4 → w q < 2 ^ 31)
    (h : ∀ s, tl_Row s w → post s) : wpX_statesOfTop post (xt, xd, xm, lS, oS, tS, fS, le, fi, se, si, ra, tz, st, ru, sk) (nI m) (nI t) := by
  show ∃ n, wX_statesOfTop_13 post ((nI m * 582 + nI t) * 4) xt xd xm lS oS tS fS le fi se si ra tz st ru sk n 0 0
  rw [xr_row]
  refine loop_0 (fun n i (r : Int32) => wX_statesOfTop_13 post (nI ((m * 582 + t) * 4)) xt xd xm lS oS tS fS le fi se si ra tz st ru sk n r (nI i))
    (fun i r => (∀ q, q < i → bt r q = decide (0 < w q)) ∧ ∀ q, i ≤ q → bt r q = false) 4 0 ⟨fun q hq => absurd hq (Nat.not_lt_zero q), fun q _ => b_0 q⟩ ?_ ?_
  · intro n r I
    exact br_t (by decide) (h r ⟨fun i h4 => I.2 i h4, I.1⟩)
  · intro n i r hi I K
    have hn : ¬ (4 : Int32) ≤ nI i := nI_ge (b := 4) hi (by decide)
    have e := nI_add ((m * 582 + t) * 4) i
    refine br_f hn ⟨pk_in ((m * 582 + t) * 4 + i) 4656 (by omega) e, ?_⟩
    rw [pk_cl _ e, hw i hi]
    by_cases h0 : 0 < w i
    · refine br_f (nI_nle h0 (hb i hi)) (nm_e (nm_r (nI_1 i) (K _ ⟨?_, ?_⟩)))
      · intro q hq
        rw [b_or, tl_shl1 hi]
        by_cases eq : q = i
        · subst eq; simp [h0]
        · rw [decide_eq_false eq, Bool.or_false]; exact I.1 q (by omega)
      · intro q hq
        rw [b_or, tl_shl1 hi, I.2 q (by omega), decide_eq_false (by omega)]; rfl
    · have e0 : w i = 0 := by omega
      refine br_t (by rw [e0]; decide) (nm_r (nI_1 i) (K _ ⟨?_, fun q hq => I.2 q (by omega)⟩))
      intro q hq
      by_cases eq : q = i
      · subst eq; rw [I.2 q (Nat.le_refl q), e0]; rfl
      · exact I.1 q (by omega)
def xr_B (b : Bool) : Int32 := if b = true then 1 else 0
theorem xr_k29 {post : Int32 → Prop} {k : Nat} (hk : k < 7) (a b : Bool) (h : post (xr_B (tl_kind k a b))) : wX_isOfKind_29 post (nI k) (xr_B a) (xr_B b) xt xd xm lS oS tS fS le fi se si ra tz st ru sk := by
  have hc : k = 0 ∨ k = 1 ∨ k = 2 ∨ k = 3 ∨ k = 4 ∨ k = 5 ∨ k = 6 := by omega
  unfold wX_isOfKind_29
  rcases hc with rfl | rfl | rfl | rfl | rfl | rfl | rfl <;> cases a <;> cases b <;>
    (repeat (first | exact h | refine br_t (by decide) ?_ | refine br_f (by decide) ?_ | refine ⟨rfl, ?_⟩))
theorem xr_kind {post : Int32 → Prop} {k t : Nat} (w0 w1 : Nat → Nat) (hk : k < 7) (ht : t < 582) (h0 : ∀ q, q < 4 → ru ((0 * 582 + t) * 4 + q) = nI (w0 q)) (h1 : ∀ q, q < 4 → ru ((1 * 582 + t) * 4 + q) = nI (w1 q))
    (b0 : tl_sum w0 4 < 2 ^ 31) (b1 : tl_sum w1 4 < 2 ^ 31)
    (h : post (xr_B (tl_kind k (tl_acc (fS 0) w0) (tl_acc (fS 1) w1)))) : wpX_isOfKind post (xt, xd, xm, lS, oS, tS, fS, le, fi, se, si, ra, tz, st, ru, sk) (nI k) (nI t) := by
  have l0 := Nat.lt_of_le_of_lt (tl_sumMono (f := fun q => tl_bi (fS 0) q (w0 q)) (g := w0) 4 fun q _ => tl_biLe _ _ _) b0
  have l1 := Nat.lt_of_le_of_lt (tl_sumMono (f := fun q => tl_bi (fS 1) q (w1 q)) (g := w1) 4 fun q _ => tl_biLe _ _ _) b1
  have s2 : ∀ b : Bool, wX_isOfKind_29 post (nI k) (xr_B (tl_acc (fS 0) w0)) (xr_B (tl_acc (fS 1) w1)) xt xd xm lS oS tS fS le fi se si ra tz st ru sk := fun _ => xr_k29 hk _ _ h
  have s1 : wX_isOfKind_14 post (nI k) (nI t) (xr_B (tl_acc (fS 0) w0)) xt xd xm lS oS tS fS le fi se si ra tz st ru sk := by
    unfold wX_isOfKind_14
    refine xr_fin (m := 1) w1 (by decide) ht h1 ?_
    have s2 := s2 true
    by_cases hp : 0 < tl_sum (fun q => tl_bi (fS 1) q (w1 q)) 4
    · have ea : tl_acc (fS 1) w1 = true := decide_eq_true hp
      rw [ea] at s2
      exact br_f (nI_nle hp l1) s2
    · have ea : tl_acc (fS 1) w1 = false := decide_eq_false hp
      rw [ea] at s2
      exact br_t (by rw [show tl_sum (fun q => tl_bi (fS 1) q (w1 q)) 4 = 0 by omega]; decide) s2
  refine xr_fin (m := 0) w0 (by decide) ht h0 ?_
  by_cases hp : 0 < tl_sum (fun q => tl_bi (fS 0) q (w0 q)) 4
  · have ea : tl_acc (fS 0) w0 = true := decide_eq_true hp
    rw [ea] at s1
    exact br_f (nI_nle hp l0) s1
  · have ea : tl_acc (fS 0) w0 = false := decide_eq_false hp
    rw [ea] at s1
    exact br_t (by rw [show tl_sum (fun q => tl_bi (fS 0) q (w0 q)) 4 = 0 by omega]; decide) s1
/-- every listed tree's kind, as the component reads it off its rows -/
def xr_KX (k : Nat) (K : Nat → Bool) (u : SX) : Prop := ∀ t, t < 570 → ∀ post : Int32 → Prop, post (xr_B (K t)) → wpX_isOfKind post u (nI k) (nI t)
theorem xr_cnt {post : Int32 → Prop} {k n a b : Nat} {K : Nat → Bool} (hK : xr_KX k K (xt, xd, xm, lS, oS, tS, fS, le, fi, se, si, ra, tz, st, ru, sk)) (hn : n < 8) (ha : st n = nI a) (hb : st (n + 1) = nI b) (hab : a ≤ b) (hb5 : b ≤ 570)
    (h : post (nI (tl_sum (fun j => (K (a + j)).toNat) (b - a)))) : wpX_countOfKind post (xt, xd, xm, lS, oS, tS, fS, le, fi, se, si, ra, tz, st, ru, sk) (nI k) (nI n) := by
  refine ⟨pk_in (n + 1) 9 (by omega) (nI_1 n), nm_r (e' := nI b) (by rw [pk_cl (n + 1) (nI_1 n), hb]) ⟨vp_in_nI (by omega) (by decide), nm_r (e' := nI a) (by rw [nI_clamp (by omega), ha]) ?_⟩⟩
  refine loop_0 (fun n i (r : Int32) => wX_countOfKind_20 post (nI k) (nI b) xt xd xm lS oS tS fS le fi se si ra tz st ru sk n r (nI (a + i)))
    (fun i r => r = nI (tl_sum (fun j => (K (a + j)).toNat) i)) (b - a) 0 rfl ?_ ?_
  · intro n r I
    exact br_t (nI_le (by omega) (by omega)) (by rw [I]; exact h)
  · intro n i r hi I L
    refine br_f (nI_ge (by omega) (by omega)) (hK (a + i) (by omega) _ ?_)
    have ei : nI (a + i) + 1 = nI (a + (i + 1)) := nI_1 _
    cases hk : K (a + i)
    · refine br_t (by decide) (nm_r ei (L _ ?_))
      show r = nI (tl_sum (fun j => (K (a + j)).toNat) i + (K (a + i)).toNat)
      rw [hk]; exact I
    · refine br_f (by decide) (nm_r (e' := nI (tl_sum (fun j => (K (a + j)).toNat) (i + 1))) ?_ (nm_r ei (L _ rfl)))
      show r + 1 = nI (tl_sum (fun j => (K (a + j)).toNat) i + (K (a + i)).toNat)
      rw [hk, I]; exact nI_1 _
theorem xr_find {post : Int32 → Prop} {k n a b : Nat} {x : Int32} {K : Nat → Bool} (hK : xr_KX k K (xt, xd, xm, lS, oS, tS, fS, le, fi, se, si, ra, tz, st, ru, sk)) (hn : n < 8) (ha : st n = nI a) (hb : st (n + 1) = nI b) (hab : a ≤ b) (hb5 : b ≤ 570)
    (hN : tl_find K x (b - a) 0 a = none → post (-4)) (hS : ∀ t, tl_find K x (b - a) 0 a = some t → post (nI t)) : wpX_findOfKind post (xt, xd, xm, lS, oS, tS, fS, le, fi, se, si, ra, tz, st, ru, sk) (nI k) (nI n) x := by
  refine ⟨pk_in (n + 1) 9 (by omega) (nI_1 n), nm_r (e' := nI b) (by rw [pk_cl (n + 1) (nI_1 n), hb]) ⟨vp_in_nI (by omega) (by decide), nm_r (e' := nI a) (by rw [nI_clamp (by omega), ha]) ?_⟩⟩
  have main : ∀ f i (y : Int32), i + f = b → (tl_find K x f y i = none → post (-4)) → (∀ t, tl_find K x f y i = some t → post (nI t)) → wX_findOfKind_21 post (nI k) x (nI b) xt xd xm lS oS tS fS le fi se si ra tz st ru sk (f + 1) y (nI i) := by
    intro f
    induction f with
    | zero =>
      intro i y e hN _
      exact br_t (nI_le (by omega) (by omega)) (hN rfl)
    | succ f ih =>
      intro i y e hN hS
      refine br_f (nI_ge (by omega) (by omega)) (hK i (by omega) _ ?_)
      cases hk : K i
      · have ef : tl_find K x (f + 1) y i = tl_find K x f y (i + 1) := by
          show (if K i = true then _ else _) = _
          rw [hk]; rfl
        rw [ef] at hN hS
        exact br_t (by decide) (nm_r (nI_1 i) (ih (i + 1) y (by omega) hN hS))
      · refine br_f (by decide) ?_
        by_cases hy : y = x
        · refine br_t hy (hS i ?_)
          show (if K i = true then _ else _) = _
          rw [hk, if_pos rfl, if_pos hy]
        · have ef : tl_find K x (f + 1) y i = tl_find K x f (y + 1) (i + 1) := by
            show (if K i = true then _ else _) = _
            rw [hk, if_pos rfl, if_neg hy]
          rw [ef] at hN hS
          exact br_f hy (nm_e (nm_r (nI_1 i) (ih (i + 1) (y + 1) (by omega) hN hS)))
  exact ⟨_, main (b - a) a 0 (by omega) hN hS⟩
end
