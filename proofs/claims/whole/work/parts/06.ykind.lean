section
variable {yn ye ys yd : Int32} {lS oS tS fS le fI sE si bg tO ra sts wy mk sk op : Nat → Int32}
variable {l c d z : Nat → Nat}
/-- the reference's arrays hold the trees below T -/
def yr_TA (T : Nat) (l c d : Nat → Nat) (le fI sE : Nat → Int32) : Prop := ∀ t, t < T → le t = nI (l t) ∧ (2 ≤ l t → fI t = nI (c t)) ∧ (l t = 3 → sE t = nI (d t))
theorem yr_jL {post : SY → Prop} {m t : Nat} (ht : t < 600) {a : Nat} (ha : a < 2) (hl : le t = nI a) (h : post (yn, ye, ys, yd, lS, oS, tS, fS, le, fI, sE, si, bg, tO, ra, sts, wy, mk, sk, op)) : ∃ n, wY_judge_64 post (nI m) (nI t) n 0 yn ye ys yd lS oS tS fS le fI sE si bg tO ra sts wy mk sk op := by
  have hin : vp_in (nI t) 600 := vp_in_nI ht (by decide)
  have hcl : (nI t).toNatClampNeg = t := nI_clamp (by omega)
  exact ⟨1, br_f (by decide) ⟨hin, br_t (by rw [hcl, hl]; exact nI_lt (b := 2) ha (by decide)) h⟩⟩
theorem yr_judge {post : SY → Prop} {m t T : Nat} (hm : m < 2) (ht : t < 600) (hT : t < T) (tp : tl_TP T l c d z) (ta : yr_TA T l c d le fI sE)
    (h4l : ∀ j, tl_S4 (lS j)) (h4o : ∀ j, tl_S4 (oS j)) (h4t : ∀ j, tl_S4 (tS j))
    (hp : ∀ u, u < t → yr_R u (tl_w lS oS tS m l c d u) wy sts)
    (h : ∀ wy' sts' : Nat → Int32, yr_F t wy sts wy' sts' → yr_R t (tl_w lS oS tS m l c d t) wy' sts' → post (yn, ye, ys, yd, lS, oS, tS, fS, le, fI, sE, si, bg, tO, ra, sts', wy', mk, sk, op)) :
    wpY_judge post (yn, ye, ys, yd, lS, oS, tS, fS, le, fI, sE, si, bg, tO, ra, sts, wy, mk, sk, op) (nI m) (nI t) := by
  have hin : vp_in (nI t) 600 := vp_in_nI ht (by decide)
  have hcl : (nI t).toNatClampNeg = t := nI_clamp (by omega)
  obtain ⟨a1, a2, a3⟩ := ta t hT
  obtain ⟨b1, b2, b3, _⟩ := tp t hT
  refine loop_0 (fun n i (r : Nat → Int32) => wY_judge_2 post (nI m) (nI t) yn ye ys yd n (nI i) lS oS tS fS le fI sE si bg tO ra sts r mk sk op)
    (fun i r => (∀ j, j < 4 * t ∨ 4 * t + 4 ≤ j → r j = wy j) ∧ ∀ q, q < i → r (4 * t + q) = nI 0) 4 wy ⟨fun _ _ => rfl, fun q hq => absurd hq (Nat.not_lt_zero q)⟩ ?_ ?_
  · intro n r I
    have hF : yr_F t wy sts r (upd sts t 0) := ⟨I.1, fun j hj => pk_un hj⟩
    have h0 : yr_R t (fun _ => 0) r (upd sts t 0) := ⟨I.2, by rw [pk_us]; exact ⟨tl_s40, fun q _ => by rw [b_0]; rfl⟩⟩
    refine br_t (by decide) ⟨hin, nm_r (e' := upd sts t 0) (by rw [hcl]) ⟨hin, ?_⟩⟩
    rw [hcl, a1]
    by_cases e3 : l t = 3
    · refine br_t (by rw [e3]; decide) ?_
      have hc := b2 (by omega)
      have hd := b3 e3
      refine yr_j3 (tl_w lS oS tS m l c d (c t)) (tl_w lS oS tS m l c d (d t)) hm ht hc hd (by rw [a1, e3]) (a2 (by omega)) (a3 e3) h4t (yr_FR hF (by omega) (hp _ hc)) (yr_FR hF (by omega) (hp _ hd)) h0 ?_
      intro r' s' f g
      exact h r' s' (yr_Ft hF f) (yr_RE (fun q _ => (tl_w3 tp hT e3).symm) g)
    · by_cases e2 : l t = 2
      · refine br_t (by rw [e2]; decide) ?_
        have hc := b2 (by omega)
        refine yr_j2 (tl_w lS oS tS m l c d (c t)) hm ht hc (by rw [a1, e2]) (a2 (by omega)) h4o (yr_FR hF (by omega) (hp _ hc)) h0 ?_
        intro r' s' f g
        exact h r' s' (yr_Ft hF f) (yr_RE (fun q _ => (tl_w2 tp hT e2).symm) g)
      · have e1 : 2 * nI m + nI (l t) = nI (2 * m + l t) := by rw [show (2 : Int32) = nI 2 from rfl, pk_mul, nI_add]
        refine br_f (nI_ge (b := 2) (by omega) (by decide)) ⟨hin, pk_in (2 * m + l t) 4 (by omega) e1, ?_⟩
        refine yr_allow (s := lS (2 * m + l t)) (v := 1) (fun _ => 0) ht (by rw [pk_cl _ e1]) rfl (h4l _) (by decide) h0 ?_
        intro r' s' f g
        exact yr_jL ht (by omega : l t < 2) a1 (h r' s' (yr_Ft hF f) (yr_RE (fun q _ => by rw [tl_w1 tp hT (by omega), Nat.zero_add]) g))
  · intro n i r hi I K
    have hn : ¬ (4 : Int32) ≤ nI i := nI_ge (b := 4) hi (by decide)
    have e := yr_4 t i
    refine br_f hn ⟨pk_in (4 * t + i) 2400 (by omega) e, nm_r (e' := upd r (4 * t + i) (nI 0)) (by rw [pk_cl (4 * t + i) e]; rfl) (nm_r (nI_1 i) (K _ ⟨?_, ?_⟩))⟩
    · intro j hj
      rw [pk_un (by omega)]; exact I.1 j hj
    · intro q hq
      by_cases eq : q = i
      · subst eq; exact pk_us
      · rw [pk_un (by omega)]; exact I.2 q (by omega)
theorem yr_all {post : SY → Prop} {m T : Nat} (hm : m < 2) (hT : T ≤ 600) (hyT : yn + ye = nI T) (tp : tl_TP T l c d z) (ta : yr_TA T l c d le fI sE)
    (h4l : ∀ j, tl_S4 (lS j)) (h4o : ∀ j, tl_S4 (oS j)) (h4t : ∀ j, tl_S4 (tS j))
    (h : ∀ wy' sts' : Nat → Int32, (∀ t, t < T → yr_R t (tl_w lS oS tS m l c d t) wy' sts') → post (yn, ye, ys, yd, lS, oS, tS, fS, le, fI, sE, si, bg, tO, ra, sts', wy', mk, sk, op)) :
    wpY_judgeAll post (yn, ye, ys, yd, lS, oS, tS, fS, le, fI, sE, si, bg, tO, ra, sts, wy, mk, sk, op) (nI m) := by
  refine loop_0 (fun n i (s : (Nat → Int32) × (Nat → Int32)) => wY_judgeAll_2 post (nI m) n (nI i) yn ye ys yd lS oS tS fS le fI sE si bg tO ra s.2 s.1 mk sk op)
    (fun i s => ∀ t, t < i → yr_R t (tl_w lS oS tS m l c d t) s.1 s.2) T (wy, sts) (fun t ht => absurd ht (Nat.not_lt_zero t)) ?_ ?_
  · intro n s I
    exact br_t (by rw [hyT]; exact nI_le (Nat.le_refl T) (by omega)) (h _ _ I)
  · intro n i s hi I K
    obtain ⟨r, ss⟩ := s
    refine br_f (by rw [hyT]; exact nI_ge hi (by omega)) ?_
    refine yr_judge hm (by omega) hi tp ta h4l h4o h4t I ?_
    intro r' s' f g
    refine nm_r (nI_1 i) (K (r', s') fun t ht => ?_)
    by_cases et : t = i
    · subst et; exact g
    · exact yr_FR f et (I t (by omega))
theorem tl_accE {s f : Int32} {w : Nat → Nat} (hr : tl_Row s w) : (s &&& f) = 0 ↔ tl_acc f w = false := by
  unfold tl_acc
  rw [decide_eq_false_iff_not]
  constructor
  · intro e hp
    have hz : ∀ q, q < 4 → tl_bi f q (w q) ≤ 0 := by
      intro q hq
      unfold tl_bi
      split
      · rename_i hb
        have e1 : bt (s &&& f) q = false := by rw [e, b_0]
        rw [b_and, hb, Bool.and_true, hr.2 q hq] at e1
        have := of_decide_eq_false e1
        omega
      · omega
    have := tl_4up hz
    omega
  · intro hp
    apply b_ext
    intro i _
    rw [b_and, b_0]
    rcases Nat.lt_or_ge i 4 with h4 | h4
    · have hb := tl_sumLe (f := fun q => tl_bi f q (w q)) h4
      have hb0 : tl_bi f i (w i) = 0 := by
        have : tl_bi f i (w i) ≤ tl_sum (fun q => tl_bi f q (w q)) 4 := hb
        omega
      unfold tl_bi at hb0
      by_cases e : bt f i = true
      · rw [if_pos e] at hb0
        rw [hr.2 i h4, hb0]; rfl
      · simp [e]
    · rw [hr.1 i h4]; rfl
/-- the mark of a tree that the two automata judge so -/
def yr_mk (a b : Bool) : Int32 := nI (a.toNat + 2 * b.toNat)
theorem yr_mark {post : SY → Prop} {T : Nat} (hT : T ≤ 600) (h5 : 570 ≤ T) (hyn : yn = nI 570) (hyT : yn + ye = nI T) (tp : tl_TP T l c d z) (ta : yr_TA T l c d le fI sE)
    (h4l : ∀ j, tl_S4 (lS j)) (h4o : ∀ j, tl_S4 (oS j)) (h4t : ∀ j, tl_S4 (tS j))
    (h : ∀ wy' sts' mk' : Nat → Int32, (∀ t, t < 570 → mk' t = yr_mk (tl_acc (fS 0) (tl_w lS oS tS 0 l c d t)) (tl_acc (fS 1) (tl_w lS oS tS 1 l c d t))) → post (yn, ye, ys, yd, lS, oS, tS, fS, le, fI, sE, si, bg, tO, ra, sts', wy', mk', sk, op)) :
    wpY_mark post (yn, ye, ys, yd, lS, oS, tS, fS, le, fI, sE, si, bg, tO, ra, sts, wy, mk, sk, op) := by
  refine yr_all (m := 0) (by decide) hT hyT tp ta h4l h4o h4t ?_
  intro w1 s1 r1
  refine loop_0 (fun n i (r : Nat → Int32) => wY_mark_7 post yn ye ys yd n (nI i) lS oS tS fS le fI sE si bg tO ra s1 w1 r sk op)
    (fun i r => ∀ t, t < i → r t = nI ((tl_acc (fS 0) (tl_w lS oS tS 0 l c d t)).toNat)) 570 mk (fun t ht => absurd ht (Nat.not_lt_zero t)) ?_ ?_
  · intro n r I
    refine br_t (by rw [hyn]; decide) ?_
    refine yr_all (m := 1) (by decide) hT hyT tp ta h4l h4o h4t ?_
    intro w2 s2 r2
    refine loop_0 (fun n i (r : Nat → Int32) => wY_mark_55 post yn ye ys yd n (nI i) lS oS tS fS le fI sE si bg tO ra s2 w2 r sk op)
      (fun i r => (∀ t, t < i → r t = yr_mk (tl_acc (fS 0) (tl_w lS oS tS 0 l c d t)) (tl_acc (fS 1) (tl_w lS oS tS 1 l c d t))) ∧ ∀ t, i ≤ t → t < 570 → r t = nI ((tl_acc (fS 0) (tl_w lS oS tS 0 l c d t)).toNat)) 570 r ⟨fun t ht => absurd ht (Nat.not_lt_zero t), fun t _ ht => I t ht⟩ ?_ ?_
    · intro n r J
      exact br_t (by rw [hyn]; decide) (h _ _ _ J.1)
    · intro n i r hi J K
      have hin : vp_in (nI i) 600 := vp_in_nI (by omega) (by decide)
      have hcl : (nI i).toNatClampNeg = i := nI_clamp (by omega)
      have hr := r2 i (by omega)
      refine br_f (by rw [hyn]; exact nI_ge hi (by decide)) ⟨hin, hin, ?_⟩
      rw [hcl]
      have step : ∀ x : Int32, x = yr_mk (tl_acc (fS 0) (tl_w lS oS tS 0 l c d i)) (tl_acc (fS 1) (tl_w lS oS tS 1 l c d i)) → wY_mark_55 post yn ye ys yd n (nI (i + 1)) lS oS tS fS le fI sE si bg tO ra s2 w2 (upd r i x) sk op := by
        intro x ex
        refine K (upd r i x) ⟨fun t ht => ?_, fun t ht h5 => ?_⟩
        · by_cases et : t = i
          · subst et; rw [pk_us]; exact ex
          · rw [pk_un et]; exact J.1 t (by omega)
        · rw [pk_un (by omega)]; exact J.2 t (by omega) h5
      have e0 := J.2 i (Nat.le_refl i) hi
      by_cases hz : (s2 i &&& fS 1) = 0
      · refine br_t hz ⟨hin, nm_e (nm_r (nI_1 i) (step _ ?_))⟩
        rw [e0, (tl_accE hr.2).mp hz, Int32.add_zero]; rfl
      · have hz2 : tl_acc (fS 1) (tl_w lS oS tS 1 l c d i) = true := by
          cases hx : tl_acc (fS 1) (tl_w lS oS tS 1 l c d i)
          · exact absurd ((tl_accE hr.2).mpr hx) hz
          · rfl
        refine br_f hz ⟨hin, nm_e (nm_r (nI_1 i) (step _ ?_))⟩
        rw [e0, hz2]; exact nI_add _ 2
  · intro n i r hi I K
    have hin : vp_in (nI i) 600 := vp_in_nI (by omega) (by decide)
    have hcl : (nI i).toNatClampNeg = i := nI_clamp (by omega)
    have hr := r1 i (by omega)
    refine br_f (by rw [hyn]; exact nI_ge hi (by decide)) ⟨hin, ?_⟩
    rw [hcl]
    have step : ∀ x : Int32, x = nI ((tl_acc (fS 0) (tl_w lS oS tS 0 l c d i)).toNat) → wY_mark_7 post yn ye ys yd n (nI (i + 1)) lS oS tS fS le fI sE si bg tO ra s1 w1 (upd r i x) sk op := by
      intro x ex
      refine K (upd r i x) fun t ht => ?_
      by_cases et : t = i
      · subst et; rw [pk_us]; exact ex
      · rw [pk_un et]; exact I t (by omega)
    by_cases hz : (s1 i &&& fS 0) = 0
    · refine br_t hz ⟨hin, nm_e (nm_r (nI_1 i) (step _ ?_))⟩
      rw [(tl_accE hr.2).mp hz]; rfl
    · have hz2 : tl_acc (fS 0) (tl_w lS oS tS 0 l c d i) = true := by
        cases hx : tl_acc (fS 0) (tl_w lS oS tS 0 l c d i)
        · exact absurd ((tl_accE hr.2).mpr hx) hz
        · rfl
      refine br_f hz ⟨hin, nm_e (nm_r (nI_1 i) (step _ ?_))⟩
      rw [hz2]; rfl
theorem yr_isOf {post : Int32 → Prop} {k : Nat} (hk : k < 7) (a b : Bool) (h : post (xr_B (tl_kind k a b))) : wpY_isOf post (yn, ye, ys, yd, lS, oS, tS, fS, le, fI, sE, si, bg, tO, ra, sts, wy, mk, sk, op) (nI k) (yr_mk a b) := by
  have hc : k = 0 ∨ k = 1 ∨ k = 2 ∨ k = 3 ∨ k = 4 ∨ k = 5 ∨ k = 6 := by omega
  unfold wpY_isOf
  rcases hc with rfl | rfl | rfl | rfl | rfl | rfl | rfl <;> cases a <;> cases b <;>
    (repeat (first | exact h | refine br_t (by decide) ?_ | refine br_f (by decide) ?_ | refine ⟨by decide, ?_⟩))
theorem yr_cnt {post : Int32 → Prop} {k n a b : Nat} {K0 K1 : Nat → Bool} (hk : k < 7) (hK : ∀ t, t < 570 → mk t = yr_mk (K0 t) (K1 t)) (hn : n < 8) (ha : bg n = nI a) (hb : bg (n + 1) = nI b) (hab : a ≤ b) (hb5 : b ≤ 570)
    (h : post (nI (tl_sum (fun j => (tl_kind k (K0 (a + j)) (K1 (a + j))).toNat) (b - a)))) : wpY_counted post (yn, ye, ys, yd, lS, oS, tS, fS, le, fI, sE, si, bg, tO, ra, sts, wy, mk, sk, op) (nI k) (nI n) := by
  have hin := pk_in (n + 1) 9 (by omega) (nI_1 n)
  refine ⟨vp_in_nI (by omega) (by decide), nm_r (e' := nI a) (by rw [nI_clamp (by omega), ha]) ?_⟩
  refine loop_0 (fun f i (r : Int32) => wY_counted_10 post (nI k) (nI n) yn ye ys yd lS oS tS fS le fI sE si bg tO ra sts wy mk sk op f r (nI (a + i)))
    (fun i r => r = nI (tl_sum (fun j => (tl_kind k (K0 (a + j)) (K1 (a + j))).toNat) i)) (b - a) 0 rfl ?_ ?_
  · intro f r I
    exact ⟨hin, br_t (by rw [pk_cl (n + 1) (nI_1 n), hb]; exact nI_le (by omega) (by omega)) (by rw [I]; exact h)⟩
  · intro f i r hi I L
    refine ⟨hin, br_f (by rw [pk_cl (n + 1) (nI_1 n), hb]; exact nI_ge (by omega) (by omega)) ⟨vp_in_nI (by omega) (by decide), ?_⟩⟩
    rw [nI_clamp (by omega : a + i < 2 ^ 31), hK (a + i) (by omega)]
    refine yr_isOf hk _ _ ?_
    have ei : nI (a + i) + 1 = nI (a + (i + 1)) := nI_1 _
    cases hk : tl_kind k (K0 (a + i)) (K1 (a + i))
    · refine br_t (by decide) (nm_r ei (L _ ?_))
      show r = nI (tl_sum (fun j => (tl_kind k (K0 (a + j)) (K1 (a + j))).toNat) i + (tl_kind k (K0 (a + i)) (K1 (a + i))).toNat)
      rw [hk]; exact I
    · refine br_f (by decide) (nm_r (e' := nI (tl_sum (fun j => (tl_kind k (K0 (a + j)) (K1 (a + j))).toNat) (i + 1))) ?_ (nm_r ei (L _ rfl)))
      show r + 1 = nI (tl_sum (fun j => (tl_kind k (K0 (a + j)) (K1 (a + j))).toNat) i + (tl_kind k (K0 (a + i)) (K1 (a + i))).toNat)
      rw [hk, I]; exact nI_1 _
theorem yr_find {post : Int32 → SY → Prop} {k n a b : Nat} {x : Int32} {K0 K1 : Nat → Bool} (hk : k < 7) (hK : ∀ t, t < 570 → mk t = yr_mk (K0 t) (K1 t)) (hn : n < 8) (hb : bg (n + 1) = nI b) (hab : a ≤ b) (hb5 : b ≤ 570)
    (hN : tl_find (fun t => tl_kind k (K0 t) (K1 t)) x (b - a) 0 a = none → post (-4) (yn, ye, ys, yd, lS, oS, tS, fS, le, fI, sE, si, bg, tO, ra, sts, wy, mk, sk, op))
    (hS : ∀ t, tl_find (fun t => tl_kind k (K0 t) (K1 t)) x (b - a) 0 a = some t → post 0 (yn, 0, nI n, 1, lS, oS, tS, fS, le, fI, sE, si, bg, tO, ra, sts, wy, mk, upd sk 0 (nI t), op)) :
    ∃ f, wY_load_36 post (nI k) (nI n) x yn ye ys yd lS oS tS fS le fI sE si bg tO ra sts wy mk sk op f 0 (nI a) := by
  have hin := pk_in (n + 1) 9 (by omega) (nI_1 n)
  have main : ∀ f i (y : Int32), i + f = b → (tl_find (fun t => tl_kind k (K0 t) (K1 t)) x f y i = none → post (-4) (yn, ye, ys, yd, lS, oS, tS, fS, le, fI, sE, si, bg, tO, ra, sts, wy, mk, sk, op)) → (∀ t, tl_find (fun t => tl_kind k (K0 t) (K1 t)) x f y i = some t → post 0 (yn, 0, nI n, 1, lS, oS, tS, fS, le, fI, sE, si, bg, tO, ra, sts, wy, mk, upd sk 0 (nI t), op)) → wY_load_36 post (nI k) (nI n) x yn ye ys yd lS oS tS fS le fI sE si bg tO ra sts wy mk sk op (f + 1) y (nI i) := by
    intro f
    induction f with
    | zero =>
      intro i y e hN _
      exact ⟨hin, br_t (by rw [pk_cl (n + 1) (nI_1 n), hb]; exact nI_le (by omega) (by omega)) (hN rfl)⟩
    | succ f ih =>
      intro i y e hN hS
      refine ⟨hin, br_f (by rw [pk_cl (n + 1) (nI_1 n), hb]; exact nI_ge (by omega) (by omega)) ⟨vp_in_nI (by omega) (by decide), ?_⟩⟩
      rw [nI_clamp (by omega : i < 2 ^ 31), hK i (by omega)]
      refine yr_isOf hk _ _ ?_
      cases hk : tl_kind k (K0 i) (K1 i)
      · have ef : tl_find (fun t => tl_kind k (K0 t) (K1 t)) x (f + 1) y i = tl_find (fun t => tl_kind k (K0 t) (K1 t)) x f y (i + 1) := by
          show (if tl_kind k (K0 i) (K1 i) = true then _ else _) = _
          rw [hk]; rfl
        rw [ef] at hN hS
        exact br_t (by decide) (nm_r (nI_1 i) (ih (i + 1) y (by omega) hN hS))
      · refine br_f (by decide) ?_
        by_cases hy : y = x
        · refine br_t hy (nm_e (hS i ?_))
          show (if tl_kind k (K0 i) (K1 i) = true then _ else _) = _
          rw [hk, if_pos rfl, if_pos hy]
        · have ef : tl_find (fun t => tl_kind k (K0 t) (K1 t)) x (f + 1) y i = tl_find (fun t => tl_kind k (K0 t) (K1 t)) x f (y + 1) (i + 1) := by
            show (if tl_kind k (K0 i) (K1 i) = true then _ else _) = _
            rw [hk, if_pos rfl, if_neg hy]
          rw [ef] at hN hS
          exact br_f hy (nm_e (nm_r (nI_1 i) (ih (i + 1) (y + 1) (by omega) hN hS)))
  exact ⟨_, main (b - a) a 0 (by omega) hN hS⟩
end
