section
/-- where the trees of each size begin in the list -/
def tl_S (n : Nat) : Nat :=
  match n with
  | 2 => 2
  | 3 => 4
  | 4 => 10
  | 5 => 24
  | 6 => 66
  | 7 => 188
  | 8 => 570
  | _ => 0
def tl_Fx (lS oS tS : Nat → Int32) : Prop := (∀ j, tl_S4 (lS j)) ∧ (∀ j, tl_S4 (oS j)) ∧ (∀ j, tl_S4 (tS j))
def tl_Tr (T : Nat) (l c d z : Nat → Nat) (le fi se fI sE si : Nat → Int32) : Prop :=
  tl_TP T l c d z ∧ xr_TA T l c d le fi se ∧ yr_TA T l c d le fI sE ∧ yr_TN T l fI sE ∧ ∀ t, t < T → si t = nI (z t)
def tl_Tb (z : Nat → Nat) (tz tO st bg : Nat → Int32) : Prop :=
  (∀ j, j < 12 → tO j = tz j) ∧ (∀ n, 1 ≤ n → n ≤ 8 → st n = nI (tl_S n) ∧ bg n = nI (tl_S n)) ∧ ∀ n, 1 ≤ n → n ≤ 7 → ∀ t, tl_S n ≤ t → t < tl_S (n + 1) → z t = n
def tl_Sk (e s D : Nat) (z : Nat → Nat) (sk : Nat → Int32) : Prop :=
  e ≤ s ∧ s ≤ 12 ∧ (∀ j, j < D → ∃ t, t < 570 + e ∧ sk j = nI t) ∧ tl_sum (fun j => z (sk j).toNatClampNeg) D ≤ s
/-- the two states: the same rules, trees, ranks and stack; the component's trees are counted from 570, its made letters are the reference's spent ones -/
def i_Rel (_ : Nat) (u : SX) (v : SY) : Prop :=
  ∃ (e s D : Nat) (l c d z : Nat → Nat) (lS oS tS fS le fi se si ra tz st ru sk fI sE bg tO sts wy mk op : Nat → Int32),
    u = (nI (570 + e), nI D, nI s, lS, oS, tS, fS, le, fi, se, si, ra, tz, st, ru, sk) ∧ v = (nI 570, nI e, nI s, nI D, lS, oS, tS, fS, le, fI, sE, si, bg, tO, ra, sts, wy, mk, sk, op) ∧
    tl_Fx lS oS tS ∧ tl_Tr (570 + e) l c d z le fi se fI sE si ∧ tl_Tb z tz tO st bg ∧ tl_Sk e s D z sk
theorem i_up {k : Nat} {u : SX} {v : SY} (h : i_Rel k u v) : i_Rel (k + 4) u v := h
theorem tl_TPm {T T' : Nat} {l c d z : Nat → Nat} (h : T' ≤ T) (a : tl_TP T l c d z) : tl_TP T' l c d z := fun t ht => a t (by omega)
theorem xr_TAm {T T' : Nat} {l c d : Nat → Nat} {le fi se : Nat → Int32} (h : T' ≤ T) (a : xr_TA T l c d le fi se) : xr_TA T' l c d le fi se := fun t ht => a t (by omega)
theorem yr_TAm {T T' : Nat} {l c d : Nat → Nat} {le fi se : Nat → Int32} (h : T' ≤ T) (a : yr_TA T l c d le fi se) : yr_TA T' l c d le fi se := fun t ht => a t (by omega)
theorem tl_Trm {T T' : Nat} {l c d z : Nat → Nat} {le fi se fI sE si : Nat → Int32} (h : T' ≤ T) (a : tl_Tr T l c d z le fi se fI sE si) : tl_Tr T' l c d z le fi se fI sE si :=
  ⟨tl_TPm h a.1, xr_TAm h a.2.1, yr_TAm h a.2.2.1, fun t ht => a.2.2.2.1 t (by omega), fun t ht => a.2.2.2.2 t (by omega)⟩
theorem pk_ix (x : Int32) {n : Nat} (hn : n < 2 ^ 31) : x < 0 ∨ nI n ≤ x ∨ ∃ j : Nat, j < n ∧ x = nI j := by
  by_cases h : x < 0
  · exact Or.inl h
  · obtain ⟨j, hj, rfl⟩ := nI_of h
    by_cases h2 : j < n
    · exact Or.inr (Or.inr ⟨j, h2, rfl⟩)
    · exact Or.inr (Or.inl (nI_le (by omega) hj))
/-! guards: v among nI 0 .. nI (n - 1), or not -/
theorem tl_out {v : Int32} (n : Nat) (hn : n < 2 ^ 31) (h : ¬ ∃ j, j < n ∧ v = nI j) : v < 0 ∨ (¬ v < 0 ∧ nI n ≤ v) := by
  rcases pk_ix v hn with a | a | a
  · exact Or.inl a
  · by_cases b : v < 0
    · exact Or.inl b
    · exact Or.inr ⟨b, a⟩
  · exact absurd a h
theorem tl_geT {j : Nat} {A B : Prop} (n : Nat) (hn : n < 2 ^ 31) (hj : j < n) (b : B) : (nI j < 0 → A) ∧ (¬ nI j < 0 → ((nI n ≤ nI j → A) ∧ (¬ nI n ≤ nI j → B))) :=
  br_f (nI_pos (by omega)) (br_f (nI_ge hj hn) b)
theorem tl_geF {v : Int32} {A B : Prop} (n : Nat) (hn : n < 2 ^ 31) (h : ¬ ∃ j, j < n ∧ v = nI j) (a : A) : (v < 0 → A) ∧ (¬ v < 0 → ((nI n ≤ v → A) ∧ (¬ nI n ≤ v → B))) := by
  rcases tl_out n hn h with x | x
  · exact br_t x a
  · exact br_f x.1 (br_t x.2 a)
theorem tl_gtT {j : Nat} {A B : Prop} (n : Nat) (hn : n < 2 ^ 30) (hj : j < n + 1) (b : B) : (nI j < 0 → A) ∧ (¬ nI j < 0 → ((nI n < nI j → A) ∧ (¬ nI n < nI j → B))) :=
  br_f (nI_pos (by omega)) (br_f (nI_nlt (by omega) (by omega)) b)
theorem tl_gtF {v : Int32} {A B : Prop} (n : Nat) (hn : n < 2 ^ 30) (h : ¬ ∃ j, j < n + 1 ∧ v = nI j) (a : A) : (v < 0 → A) ∧ (¬ v < 0 → ((nI n < v → A) ∧ (¬ nI n < v → B))) := by
  rcases tl_out (n + 1) (by omega) h with x | x
  · exact br_t x a
  · exact br_f x.1 (br_t (Int32.lt_of_lt_of_le (nI_lt (by omega) (by omega)) x.2) a)
theorem tl_leT {j : Nat} {A B : Prop} (n : Nat) (hn : n < 2 ^ 30) (hj : j < n + 1) (b : B) : (nI j < 0 → A) ∧ (¬ nI j < 0 → ((nI j ≤ nI n → B) ∧ (¬ nI j ≤ nI n → A))) :=
  br_f (nI_pos (by omega)) (br_t (nI_le (by omega) (by omega)) b)
theorem tl_leF {v : Int32} {A B : Prop} (n : Nat) (hn : n < 2 ^ 30) (h : ¬ ∃ j, j < n + 1 ∧ v = nI j) (a : A) : (v < 0 → A) ∧ (¬ v < 0 → ((v ≤ nI n → B) ∧ (¬ v ≤ nI n → A))) := by
  rcases tl_out (n + 1) (by omega) h with x | x
  · exact br_t x a
  · refine br_f x.1 (br_f ?_ a)
    have := Int32.lt_of_lt_of_le (nI_lt (Nat.lt_succ_self n) (by omega)) x.2
    exact Int32.not_le.mpr this
/-- a size from 1 to 7 -/
theorem tl_sz {v : Int32} (h : ¬ ∃ n, 1 ≤ n ∧ n ≤ 7 ∧ v = nI n) : v < 1 ∨ (¬ v < 1 ∧ (7 : Int32) < v) := by
  by_cases a : v < 1
  · exact Or.inl a
  · by_cases b : (7 : Int32) < v
    · exact Or.inr ⟨a, b⟩
    · have h0 : ¬ v < 0 := fun z => a (Int32.lt_trans z (by decide))
      obtain ⟨j, hj, rfl⟩ := nI_of h0
      have h7 : nI j ≤ nI 7 := Int32.not_lt.mp b
      have h1 : nI 1 ≤ nI j := Int32.not_lt.mp a
      rw [nI_leI hj (by decide)] at h7
      rw [nI_leI (by decide) hj] at h1
      exact absurd ⟨j, h1, h7, rfl⟩ h
end
section
variable {xt xd xm : Int32} {lS oS tS fS le fi se si ra tz st ru sk : Nat → Int32}
theorem xg_autT {post : Int32 → Prop} {j : Nat} (hj : j < 2) (h : post 1) : wpX_isAutomaton post (xt, xd, xm, lS, oS, tS, fS, le, fi, se, si, ra, tz, st, ru, sk) (nI j) := tl_geT 2 (by decide) hj h
theorem xg_autF {post : Int32 → Prop} {v : Int32} (hv : ¬ ∃ j, j < 2 ∧ v = nI j) (h : post 0) : wpX_isAutomaton post (xt, xd, xm, lS, oS, tS, fS, le, fi, se, si, ra, tz, st, ru, sk) v := tl_geF 2 (by decide) hv h
theorem xg_leafT {post : Int32 → Prop} {j : Nat} (hj : j < 2) (h : post 1) : wpX_isLeafLetter post (xt, xd, xm, lS, oS, tS, fS, le, fi, se, si, ra, tz, st, ru, sk) (nI j) := tl_geT 2 (by decide) hj h
theorem xg_leafF {post : Int32 → Prop} {v : Int32} (hv : ¬ ∃ j, j < 2 ∧ v = nI j) (h : post 0) : wpX_isLeafLetter post (xt, xd, xm, lS, oS, tS, fS, le, fi, se, si, ra, tz, st, ru, sk) v := tl_geF 2 (by decide) hv h
theorem xg_setT {post : Int32 → Prop} {j : Nat} (hj : j < 16) (h : post 1) : wpX_isSet post (xt, xd, xm, lS, oS, tS, fS, le, fi, se, si, ra, tz, st, ru, sk) (nI j) := tl_gtT 15 (by decide) hj h
theorem xg_setF {post : Int32 → Prop} {v : Int32} (hv : ¬ ∃ j, j < 16 ∧ v = nI j) (h : post 0) : wpX_isSet post (xt, xd, xm, lS, oS, tS, fS, le, fi, se, si, ra, tz, st, ru, sk) v := tl_gtF 15 (by decide) hv h
theorem xg_kindT {post : Int32 → Prop} {j : Nat} (hj : j < 7) (h : post 1) : wpX_isKind post (xt, xd, xm, lS, oS, tS, fS, le, fi, se, si, ra, tz, st, ru, sk) (nI j) := tl_geT 7 (by decide) hj h
theorem xg_kindF {post : Int32 → Prop} {v : Int32} (hv : ¬ ∃ j, j < 7 ∧ v = nI j) (h : post 0) : wpX_isKind post (xt, xd, xm, lS, oS, tS, fS, le, fi, se, si, ra, tz, st, ru, sk) v := tl_geF 7 (by decide) hv h
theorem xg_sizeT {post : Int32 → Prop} {n : Nat} (h1 : 1 ≤ n) (h7 : n ≤ 7) (h : post 1) : wpX_isListedSize post (xt, xd, xm, lS, oS, tS, fS, le, fi, se, si, ra, tz, st, ru, sk) (nI n) :=
  br_f (nI_nlt (b := 1) h1 (by omega)) (br_f (nI_nlt (a := 7) h7 (by decide)) h)
theorem xg_sizeF {post : Int32 → Prop} {v : Int32} (hv : ¬ ∃ n, 1 ≤ n ∧ n ≤ 7 ∧ v = nI n) (h : post 0) : wpX_isListedSize post (xt, xd, xm, lS, oS, tS, fS, le, fi, se, si, ra, tz, st, ru, sk) v := by
  rcases tl_sz hv with x | x
  · exact br_t x h
  · exact br_f x.1 (br_t x.2 h)
end
section
variable {yn ye ys yd : Int32} {lS oS tS fS le fI sE si bg tO ra sts wy mk sk op : Nat → Int32}
theorem yg_badF {post : Int32 → Prop} {j : Nat} (hj : j < 2) (h : post 0) : wpY_bad post (yn, ye, ys, yd, lS, oS, tS, fS, le, fI, sE, si, bg, tO, ra, sts, wy, mk, sk, op) (nI j) := tl_leT 1 (by decide) hj h
theorem yg_badT {post : Int32 → Prop} {v : Int32} (hv : ¬ ∃ j, j < 2 ∧ v = nI j) (h : post 1) : wpY_bad post (yn, ye, ys, yd, lS, oS, tS, fS, le, fI, sE, si, bg, tO, ra, sts, wy, mk, sk, op) v := tl_leF 1 (by decide) hv h
theorem yg_nosetF {post : Int32 → Prop} {j : Nat} (hj : j < 16) (h : post 0) : wpY_noSet post (yn, ye, ys, yd, lS, oS, tS, fS, le, fI, sE, si, bg, tO, ra, sts, wy, mk, sk, op) (nI j) := tl_leT 15 (by decide) hj h
theorem yg_nosetT {post : Int32 → Prop} {v : Int32} (hv : ¬ ∃ j, j < 16 ∧ v = nI j) (h : post 1) : wpY_noSet post (yn, ye, ys, yd, lS, oS, tS, fS, le, fI, sE, si, bg, tO, ra, sts, wy, mk, sk, op) v := tl_leF 15 (by decide) hv h
theorem yg_nokindF {post : Int32 → Prop} {j : Nat} (hj : j < 7) (h : post 0) : wpY_noKind post (yn, ye, ys, yd, lS, oS, tS, fS, le, fI, sE, si, bg, tO, ra, sts, wy, mk, sk, op) (nI j) := tl_leT 6 (by decide) hj h
theorem yg_nokindT {post : Int32 → Prop} {v : Int32} (hv : ¬ ∃ j, j < 7 ∧ v = nI j) (h : post 1) : wpY_noKind post (yn, ye, ys, yd, lS, oS, tS, fS, le, fI, sE, si, bg, tO, ra, sts, wy, mk, sk, op) v := tl_leF 6 (by decide) hv h
/-- the reference's test of a size from 1 to 7 -/
theorem yg_sizeT {A B : Prop} {n : Nat} (h1 : 1 ≤ n) (h7 : n ≤ 7) (b : B) : (nI n < 1 → A) ∧ (¬ nI n < 1 → ((nI n ≤ 7 → B) ∧ (¬ nI n ≤ 7 → A))) :=
  br_f (nI_nlt (b := 1) h1 (by omega)) (br_t (nI_le (b := 7) h7 (by decide)) b)
theorem yg_sizeF {A B : Prop} {v : Int32} (hv : ¬ ∃ n, 1 ≤ n ∧ n ≤ 7 ∧ v = nI n) (a : A) : (v < 1 → A) ∧ (¬ v < 1 → ((v ≤ 7 → B) ∧ (¬ v ≤ 7 → A))) := by
  rcases tl_sz hv with x | x
  · exact br_t x a
  · exact br_f x.1 (br_f (Int32.not_le.mpr x.2) a)
end
