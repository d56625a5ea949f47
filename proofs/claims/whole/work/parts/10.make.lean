section
/-- how many trees have letter 3 and a smaller first child: the sum of both sides -/
def tl_sI (tz : Nat → Int32) (n : Nat) : Nat → Int32
  | 0 => 0
  | i + 1 => tl_sI tz n i + tz (i + 1) * tz (n - 1 - (i + 1))
theorem tl_sIE {a b : Nat → Int32} {n : Nat} : ∀ i, (∀ j, j ≤ i → a j = b j) → (∀ j, j < n → a j = b j) → 1 ≤ n → tl_sI a n i = tl_sI b n i
  | 0, _, _, _ => rfl
  | i + 1, h, g, hn => by
    show tl_sI a n i + a (i + 1) * a (n - 1 - (i + 1)) = tl_sI b n i + b (i + 1) * b (n - 1 - (i + 1))
    rw [tl_sIE i (fun j hj => h j (by omega)) g hn, h (i + 1) (Nat.le_refl _), g _ (by omega)]
/-- a tree more -/
def tl_uN (f : Nat → Nat) (k x : Nat) : Nat → Nat := fun j => if j = k then x else f j
theorem tl_uNs {f : Nat → Nat} {k x : Nat} : tl_uN f k x k = x := if_pos rfl
theorem tl_uNn {f : Nat → Nat} {k x j : Nat} (h : j ≠ k) : tl_uN f k x j = f j := if_neg h
theorem tl_TrX {T a b b2 y : Nat} {l c d z : Nat → Nat} {le fi se fI sE si : Nat → Int32} {x1 x2 y1 y2 : Int32} (R : tl_Tr T l c d z le fi se fI sE si)
    (ha : a ≤ 3) (hb : 2 ≤ a → b < T ∧ x1 = nI b ∧ y1 = nI b) (hb2 : a = 3 → b2 < T ∧ x2 = nI b2 ∧ y2 = nI b2) (n1 : a < 2 → y1 = -1) (n2 : a < 3 → y2 = -1)
    (z1 : a < 2 → y = 1) (z2 : a = 2 → y = 1 + z b) (z3 : a = 3 → y = 1 + z b + z b2) (hy : y ≤ 12) :
    tl_Tr (T + 1) (tl_uN l T a) (tl_uN c T b) (tl_uN d T b2) (tl_uN z T y) (upd le T (nI a)) (upd fi T x1) (upd se T x2) (upd fI T y1) (upd sE T y2) (upd si T (nI y)) := by
  obtain ⟨p, q, r, s, w⟩ := R
  refine ⟨fun t ht => ?_, fun t ht => ?_, fun t ht => ?_, fun t ht => ?_, fun t ht => ?_⟩
  · by_cases e : t = T
    · subst e
      rw [tl_uNs, tl_uNs, tl_uNs, tl_uNs]
      refine ⟨ha, fun h => (hb h).1, fun h => (hb2 h).1, z1, fun h => ?_, fun h => ?_, hy⟩
      · rw [tl_uNn (by have := (hb (by omega)).1; omega)]; exact z2 h
      · rw [tl_uNn (by have := (hb (by omega)).1; omega), tl_uNn (by have := (hb2 h).1; omega)]; exact z3 h
    · obtain ⟨p1, p2, p3, p4, p5, p6, p7⟩ := p t (by omega)
      rw [tl_uNn e, tl_uNn e, tl_uNn e, tl_uNn e]
      refine ⟨p1, p2, p3, p4, fun h => ?_, fun h => ?_, p7⟩
      · rw [tl_uNn (by have := p2 (by omega); omega)]; exact p5 h
      · rw [tl_uNn (by have := p2 (by omega); omega), tl_uNn (by have := p3 h; omega)]; exact p6 h
  · by_cases e : t = T
    · subst e
      rw [tl_uNs, tl_uNs, tl_uNs, pk_us, pk_us, pk_us]
      exact ⟨rfl, fun h => (hb h).2.1, fun h => (hb2 h).2.1⟩
    · rw [tl_uNn e, tl_uNn e, tl_uNn e, pk_un e, pk_un e, pk_un e]; exact q t (by omega)
  · by_cases e : t = T
    · subst e
      rw [tl_uNs, tl_uNs, tl_uNs, pk_us, pk_us, pk_us]
      exact ⟨rfl, fun h => (hb h).2.2, fun h => (hb2 h).2.2⟩
    · rw [tl_uNn e, tl_uNn e, tl_uNn e, pk_un e, pk_un e, pk_un e]; exact r t (by omega)
  · by_cases e : t = T
    · subst e
      rw [tl_uNs, pk_us, pk_us]
      exact ⟨n1, n2⟩
    · rw [tl_uNn e, pk_un e, pk_un e]; exact s t (by omega)
  · by_cases e : t = T
    · subst e
      rw [tl_uNs, pk_us]
    · rw [tl_uNn e, pk_un e]; exact w t (by omega)
theorem tl_TbX {T y : Nat} {z : Nat → Nat} {tz tO st bg : Nat → Int32} (hT : 570 ≤ T) (B : tl_Tb z tz tO st bg) : tl_Tb (tl_uN z T y) tz tO st bg := by
  refine ⟨B.1, B.2.1, fun n h1 h7 t a b => ?_⟩
  have hS : ∀ n, n ≤ 7 → tl_S (n + 1) ≤ 570 := by decide
  have := hS n h7
  rw [tl_uNn (by omega)]
  exact B.2.2 n h1 h7 t a b
/-- the new tree is pushed at place D' -/
theorem tl_SkX {e s D' y : Nat} {z : Nat → Nat} {sk : Nat → Int32} (he : e ≤ s) (hs : s < 12) (hk : ∀ j, j < D' → ∃ t, t < 570 + e ∧ sk j = nI t)
    (hy : tl_sum (fun j => z (sk j).toNatClampNeg) D' + y ≤ s + 1) : tl_Sk (e + 1) (s + 1) (D' + 1) (tl_uN z (570 + e) y) (upd sk D' (nI (570 + e))) := by
  refine ⟨by omega, by omega, fun j hj => ?_, ?_⟩
  · by_cases ej : j = D'
    · subst ej; exact ⟨570 + e, by omega, pk_us⟩
    · obtain ⟨t, ht, et⟩ := hk j (by omega)
      exact ⟨t, by omega, by rw [pk_un ej]; exact et⟩
  · show tl_sum (fun j => tl_uN z (570 + e) y (upd sk D' (nI (570 + e)) j).toNatClampNeg) D' + tl_uN z (570 + e) y (upd sk D' (nI (570 + e)) D').toNatClampNeg ≤ s + 1
    rw [pk_us, nI_clamp (by omega : 570 + e < 2 ^ 31), tl_uNs, tl_sumE (g := fun j => z (sk j).toNatClampNeg) D' fun j hj => ?_]
    · exact hy
    · obtain ⟨t, ht, et⟩ := hk j hj
      rw [pk_un (by omega), et, nI_clamp (by omega), tl_uNn (by omega)]
end
section
variable {xt xd xm : Int32} {lS oS tS fS le fi se si ra tz st ru sk : Nat → Int32}
theorem xm_add {post : SX → Prop} {T : Nat} {p0 p1 p2 p3 p4 : Int32} (hT : T < 582)
    (h : post (nI (T + 1), xd, xm, lS, oS, tS, fS, upd le T p0, upd fi T p1, upd se T p2, upd si T p3, upd ra T p4, tz, st, ru, sk)) : wpX_addTree post (nI T, xd, xm, lS, oS, tS, fS, le, fi, se, si, ra, tz, st, ru, sk) p0 p1 p2 p3 p4 := by
  have hin : vp_in (nI T) 582 := vp_in_nI hT (by decide)
  have hcl : (nI T).toNatClampNeg = T := nI_clamp (by omega)
  exact ⟨hin, nm_r (by rw [hcl]) ⟨hin, nm_r (by rw [hcl]) ⟨hin, nm_r (by rw [hcl]) ⟨hin, nm_r (by rw [hcl]) ⟨hin, nm_r (by rw [hcl]) (nm_r (nI_1 T) h)⟩⟩⟩⟩⟩
theorem xm_push {post : Int32 → SX → Prop} {T D s : Nat} (hD : D < 12)
    (h : post (nI (D + 1)) (nI (T + 1), nI (D + 1), nI (s + 1), lS, oS, tS, fS, le, fi, se, si, ra, tz, st, ru, upd sk D (nI T))) : wpX_pushAddedTree post (nI (T + 1), nI D, nI s, lS, oS, tS, fS, le, fi, se, si, ra, tz, st, ru, sk) := by
  have hcl : (nI D).toNatClampNeg = D := nI_clamp (by omega)
  unfold wpX_pushAddedTree
  dsimp only
  exact ⟨vp_in_nI hD (by decide), nm_r (e' := upd sk D (nI T)) (by rw [hcl, nI_pred]) (nm_r (nI_1 D) (nm_r (nI_1 s) h))⟩
theorem xm_twb {post : Int32 → Prop} {n b : Nat} (hb : 1 ≤ b) (hbn : b < n) (hn : n ≤ 12) (h : post (tl_sI tz n (b - 1))) : wpX_treesWithFirstBelow post (xt, xd, xm, lS, oS, tS, fS, le, fi, se, si, ra, tz, st, ru, sk) (nI n) (nI b) := by
  refine loop_0 (fun f i (r : Int32) => wX_treesWithFirstBelow_5 post (nI n) (nI b) xt xd xm lS oS tS fS le fi se si ra tz st ru sk f r (nI (i + 1)))
    (fun i r => r = tl_sI tz n i) (b - 1) 0 rfl ?_ ?_
  · intro f r I
    exact br_t (nI_le (by omega) (by omega)) (by rw [I]; exact h)
  · intro f i r hi I K
    have e : nI n - 1 - nI (i + 1) = nI (n - 1 - (i + 1)) := by
      rw [show (1 : Int32) = nI 1 from rfl, pk_sub (by omega : 1 ≤ n), pk_sub (by omega)]
    refine br_f (nI_ge (by omega) (by omega)) ⟨vp_in_nI (by omega) (by decide), pk_in (n - 1 - (i + 1)) 12 (by omega) e, nm_r (e' := tl_sI tz n (i + 1)) ?_ (nm_r (nI_1 (i + 1)) (K _ rfl))⟩
    rw [pk_cl _ e, nI_clamp (by omega), I]
    rfl
/-- the component's new tree with letter 3 -/
theorem xm_two {post : SX → Prop} {T a b y1 y2 : Nat} (hT : T < 582) (ha : a < T) (hb : b < T) (ea : si a = nI y1) (eb : si b = nI y2) (h1 : 1 ≤ y1) (h2 : 1 ≤ y2) (h12 : 1 + y1 + y2 ≤ 12)
    (h : post (nI (T + 1), xd, xm, lS, oS, tS, fS, upd le T 3, upd fi T (nI a), upd se T (nI b), upd si T (nI (1 + y1 + y2)), upd ra T (((tz (y1 + y2) + tl_sI tz (1 + y1 + y2) (y1 - 1)) + ra a * tz y2) + ra b), tz, st, ru, sk)) :
    wpX_addTwo post (nI T, xd, xm, lS, oS, tS, fS, le, fi, se, si, ra, tz, st, ru, sk) (nI a) (nI b) := by
  have ia : vp_in (nI a) 582 := vp_in_nI (by omega) (by decide)
  have ib : vp_in (nI b) 582 := vp_in_nI (by omega) (by decide)
  have ca : (nI a).toNatClampNeg = a := nI_clamp (by omega)
  have cb : (nI b).toNatClampNeg = b := nI_clamp (by omega)
  have c2 : (nI y2).toNatClampNeg = y2 := nI_clamp (by omega)
  have e1 : 1 + si (nI a).toNatClampNeg + si (nI b).toNatClampNeg = nI (1 + y1 + y2) := by
    rw [ca, cb, ea, eb, show (1 : Int32) = nI 1 from rfl, nI_add, nI_add]
  have e2 : nI (1 + y1 + y2) - 1 = nI (y1 + y2) := by rw [show 1 + y1 + y2 = (y1 + y2) + 1 by omega]; exact nI_pred _
  refine ⟨ia, ib, nm_r e1 ⟨pk_in (y1 + y2) 12 (by omega) e2, nm_r (e' := tz (y1 + y2)) (by rw [pk_cl _ e2]) ⟨ia, ?_⟩⟩⟩
  rw [ca, cb, ea, eb, c2]
  refine xm_twb h1 (by omega) h12 ?_
  exact ⟨ia, ib, vp_in_nI (by omega) (by decide), nm_e ⟨ib, nm_e (xm_add hT h)⟩⟩
end
section
variable {yn ye ys yd : Int32} {lS oS tS fS le fI sE si bg tO ra sts wy mk sk op : Nat → Int32}
/-- the reference's new tree: what stands behind its rank -/
theorem ym_71 {post : Int32 → SY → Prop} {e s D : Nat} {z0 z1 y rk : Int32} (he : 570 + e < 600) (hD : D < 12) (hz : z1 + z0 = y)
    (hr : ∀ q : Int32 → Prop, q rk → wpY_rankOf q (nI 570, nI e, nI s, nI D, lS, oS, tS, fS, le, fI, sE, upd si (570 + e) y, bg, tO, ra, sts, wy, mk, sk, op) (nI (570 + e)))
    (h : post (nI (D + 1)) (nI 570, nI (e + 1), nI (s + 1), nI (D + 1), lS, oS, tS, fS, le, fI, sE, upd si (570 + e) y, bg, tO, upd ra (570 + e) rk, sts, wy, mk, upd sk D (nI (570 + e)), op)) :
    wY_make_71 post (nI (570 + e)) z0 z1 (nI (570 + e)) (nI 570) (nI e) (nI s) (nI D) lS oS tS fS le fI sE si bg tO ra sts wy mk sk op := by
  have hin : vp_in (nI (570 + e)) 600 := vp_in_nI he (by decide)
  have hcl : (nI (570 + e)).toNatClampNeg = 570 + e := nI_clamp (by omega)
  have hcD : (nI D).toNatClampNeg = D := nI_clamp (by omega)
  refine ⟨hin, nm_r (e' := upd si (570 + e) y) (by rw [hcl, hz]) ?_⟩
  refine hr _ ?_
  exact ⟨hin, nm_r (e' := upd ra (570 + e) rk) (by rw [hcl]) ⟨vp_in_nI hD (by decide), nm_r (e' := upd sk D (nI (570 + e))) (by rw [hcD]) (nm_r (nI_1 D) (nm_r (nI_1 e) (nm_r (nI_1 s) h)))⟩⟩
theorem ym_leaf {post : Int32 → SY → Prop} {e s D a : Nat} (he : 570 + e < 600) (hD : D < 12) (ha : a < 2)
    (h : post (nI (D + 1)) (nI 570, nI (e + 1), nI (s + 1), nI (D + 1), lS, oS, tS, fS, upd le (570 + e) (nI a), upd fI (570 + e) (-1), upd sE (570 + e) (-1), upd si (570 + e) (nI 1), bg, tO, upd ra (570 + e) (nI a), sts, wy, mk, upd sk D (nI (570 + e)), op)) :
    wpY_make post (nI 570, nI e, nI s, nI D, lS, oS, tS, fS, le, fI, sE, si, bg, tO, ra, sts, wy, mk, sk, op) (nI a) (-1) (-1) := by
  have hin : vp_in (nI (570 + e)) 600 := vp_in_nI he (by decide)
  have hcl : (nI (570 + e)).toNatClampNeg = 570 + e := nI_clamp (by omega)
  refine nm_r (nI_add 570 e) ⟨hin, nm_r (e' := upd le (570 + e) (nI a)) (by rw [hcl]) ⟨hin, nm_r (e' := upd fI (570 + e) (-1)) (by rw [hcl]) ⟨hin, nm_r (e' := upd sE (570 + e) (-1)) (by rw [hcl]) ?_⟩⟩⟩
  refine br_f (by decide) (br_f (by decide) ?_)
  refine ym_71 (y := nI 1) (rk := nI a) he hD rfl ?_ h
  intro q hq
  refine ⟨hin, ?_⟩
  rw [hcl, pk_us]
  exact br_f (nI_ge (b := 2) ha (by decide)) ⟨hin, hq⟩
theorem ym_one {post : Int32 → SY → Prop} {e s D a y : Nat} (he : 570 + e < 600) (hD : D < 12) (ha : a < 570 + e) (ea : si a = nI y)
    (h : post (nI (D + 1)) (nI 570, nI (e + 1), nI (s + 1), nI (D + 1), lS, oS, tS, fS, upd le (570 + e) (nI 2), upd fI (570 + e) (nI a), upd sE (570 + e) (-1), upd si (570 + e) (nI (1 + y)), bg, tO, upd ra (570 + e) (ra a), sts, wy, mk, upd sk D (nI (570 + e)), op)) :
    wpY_make post (nI 570, nI e, nI s, nI D, lS, oS, tS, fS, le, fI, sE, si, bg, tO, ra, sts, wy, mk, sk, op) 2 (nI a) (-1) := by
  have hin : vp_in (nI (570 + e)) 600 := vp_in_nI he (by decide)
  have hcl : (nI (570 + e)).toNatClampNeg = 570 + e := nI_clamp (by omega)
  have ia : vp_in (nI a) 600 := vp_in_nI (by omega) (by decide)
  have ca : (nI a).toNatClampNeg = a := nI_clamp (by omega)
  refine nm_r (nI_add 570 e) ⟨hin, nm_r (e' := upd le (570 + e) (nI 2)) (by rw [hcl]; rfl) ⟨hin, nm_r (e' := upd fI (570 + e) (nI a)) (by rw [hcl]) ⟨hin, nm_r (e' := upd sE (570 + e) (-1)) (by rw [hcl]) ?_⟩⟩⟩
  refine br_t (nI_pos' (by omega)) ⟨ia, br_f (by decide) ?_⟩
  refine ym_71 (y := nI (1 + y)) (rk := ra a) he hD ?_ ?_ h
  · rw [ca, ea, Int32.add_zero]; exact nI_add 1 y
  · intro q hq
    refine ⟨hin, ?_⟩
    rw [hcl, pk_us, pk_us]
    exact br_t (by decide) ⟨hin, br_t (by decide) ⟨hin, ia, by rw [ca]; exact hq⟩⟩
theorem ym_two {post : Int32 → SY → Prop} {e s D a b y1 y2 : Nat} (he : 570 + e < 600) (hD : D < 12) (ha : a < 570 + e) (hb : b < 570 + e) (ea : si a = nI y1) (eb : si b = nI y2) (h1 : 1 ≤ y1) (h2 : 1 ≤ y2) (h12 : 1 + y1 + y2 ≤ 12)
    (h : post (nI (D + 1)) (nI 570, nI (e + 1), nI (s + 1), nI (D + 1), lS, oS, tS, fS, upd le (570 + e) (nI 3), upd fI (570 + e) (nI a), upd sE (570 + e) (nI b), upd si (570 + e) (nI (1 + y1 + y2)), bg, tO, upd ra (570 + e) (((tO (y1 + y2) + ra a * tO y2) + ra b) + tl_sI tO (1 + y1 + y2) (y1 - 1)), sts, wy, mk, upd sk D (nI (570 + e)), op)) :
    wpY_make post (nI 570, nI e, nI s, nI D, lS, oS, tS, fS, le, fI, sE, si, bg, tO, ra, sts, wy, mk, sk, op) 3 (nI a) (nI b) := by
  have hin : vp_in (nI (570 + e)) 600 := vp_in_nI he (by decide)
  have hcl : (nI (570 + e)).toNatClampNeg = 570 + e := nI_clamp (by omega)
  have ia : vp_in (nI a) 600 := vp_in_nI (by omega) (by decide)
  have ca : (nI a).toNatClampNeg = a := nI_clamp (by omega)
  have ib : vp_in (nI b) 600 := vp_in_nI (by omega) (by decide)
  have cb : (nI b).toNatClampNeg = b := nI_clamp (by omega)
  refine nm_r (nI_add 570 e) ⟨hin, nm_r (e' := upd le (570 + e) (nI 3)) (by rw [hcl]; rfl) ⟨hin, nm_r (e' := upd fI (570 + e) (nI a)) (by rw [hcl]) ⟨hin, nm_r (e' := upd sE (570 + e) (nI b)) (by rw [hcl]) ?_⟩⟩⟩
  refine br_t (nI_pos' (by omega)) ⟨ia, br_t (nI_pos' (by omega)) ⟨ib, ?_⟩⟩
  refine ym_71 (y := nI (1 + y1 + y2)) he hD ?_ ?_ h
  · rw [ca, cb, ea, eb, show (1 : Int32) = nI 1 from rfl, nI_add, nI_add]
  · intro q hq
    have e2 : nI (1 + y1 + y2) - 1 = nI (y1 + y2) := by rw [show 1 + y1 + y2 = (y1 + y2) + 1 by omega]; exact nI_pred _
    have e3 : nI (1 + y1 + y2) - 1 - nI y1 = nI y2 := by rw [e2, pk_sub (by omega)]; exact congrArg nI (by omega)
    refine ⟨hin, ?_⟩
    rw [hcl, pk_us, pk_us, pk_us, pk_us]
    refine br_t (by decide) ⟨hin, br_f (by decide) ⟨hin, nm_e ⟨hin, ia, nm_r (e' := nI y1) (by rw [ca, pk_un (by omega), ea]) ⟨pk_in (y1 + y2) 20 (by omega) e2, hin, ia, pk_in y2 20 (by omega) e3, hin, ib, nm_r (e' := (tO (y1 + y2) + ra a * tO y2) + ra b) (by rw [ca, cb, pk_cl _ e2, pk_cl _ e3]) ?_⟩⟩⟩⟩
    refine loop_0 (fun f i (r : Int32) => wY_rankOf_106 q (nI (1 + y1 + y2)) (nI y1) (nI 570) (nI e) (nI s) (nI D) lS oS tS fS (upd le (570 + e) (nI 3)) (upd fI (570 + e) (nI a)) (upd sE (570 + e) (nI b)) (upd si (570 + e) (nI (1 + y1 + y2))) bg tO ra sts wy mk sk op f r (nI (i + 1)))
      (fun i r => r = ((tO (y1 + y2) + ra a * tO y2) + ra b) + tl_sI tO (1 + y1 + y2) i) (y1 - 1) _ (Int32.add_zero _).symm ?_ ?_
    · intro f r I
      exact br_t (nI_le (by omega) (by omega)) (by rw [I]; exact hq)
    · intro f i r hi I K
      have e : nI (1 + y1 + y2) - 1 - nI (i + 1) = nI (1 + y1 + y2 - 1 - (i + 1)) := by
        rw [show (1 : Int32) = nI 1 from rfl, pk_sub (by omega : 1 ≤ 1 + y1 + y2), pk_sub (by omega)]
      refine br_f (nI_ge (by omega) (by omega)) ⟨vp_in_nI (by omega) (by decide), pk_in (1 + y1 + y2 - 1 - (i + 1)) 20 (by omega) e, nm_e (nm_r (nI_1 (i + 1)) (K _ ?_))⟩
      rw [pk_cl _ e, nI_clamp (by omega), I, Int32.add_assoc _ (tl_sI tO (1 + y1 + y2) i)]
      rfl
end
