section
/-- the subtree whose top is letter k of tree t -/
def tl_sub (l c d z : Nat → Nat) : Nat → Nat → Nat → Nat
  | 0, t, _ => t
  | f + 1, t, k => if k = 0 then t else if l t = 3 ∧ z (c t) ≤ k - 1 then tl_sub l c d z f (d t) (k - 1 - z (c t)) else tl_sub l c d z f (c t) (k - 1)
def tl_su (l c d z : Nat → Nat) (t k : Nat) : Nat := tl_sub l c d z k t k
variable {l c d z : Nat → Nat}
theorem tl_sub0 (f t : Nat) : tl_sub l c d z f t 0 = t := by
  cases f with
  | zero => rfl
  | succ f => exact if_pos rfl
theorem tl_subF : ∀ f g t k, k ≤ f → k ≤ g → tl_sub l c d z f t k = tl_sub l c d z g t k := by
  intro f
  induction f with
  | zero =>
    intro g t k hf _
    have e : k = 0 := by omega
    subst e; rw [tl_sub0, tl_sub0]
  | succ f ih =>
    intro g t k hf hg
    cases g with
    | zero =>
      have e : k = 0 := by omega
      subst e; rw [tl_sub0, tl_sub0]
    | succ g =>
      unfold tl_sub
      by_cases e : k = 0
      · rw [if_pos e, if_pos e]
      · rw [if_neg e, if_neg e]
        by_cases h : l t = 3 ∧ z (c t) ≤ k - 1
        · rw [if_pos h, if_pos h]; exact ih g _ _ (by omega) (by omega)
        · rw [if_neg h, if_neg h]; exact ih g _ _ (by omega) (by omega)
theorem tl_su3 {t k : Nat} (h : l t = 3) (hz : z (c t) ≤ k) : tl_su l c d z t (k + 1) = tl_su l c d z (d t) (k - z (c t)) := by
  have e : tl_su l c d z t (k + 1) = if k + 1 = 0 then t else if l t = 3 ∧ z (c t) ≤ k then tl_sub l c d z k (d t) (k - z (c t)) else tl_sub l c d z k (c t) k := rfl
  rw [e, if_neg (by omega), if_pos ⟨h, hz⟩]; exact tl_subF _ _ _ _ (by omega) (Nat.le_refl _)
theorem tl_suN {t k : Nat} (h : ¬ (l t = 3 ∧ z (c t) ≤ k)) : tl_su l c d z t (k + 1) = tl_su l c d z (c t) k := by
  have e : tl_su l c d z t (k + 1) = if k + 1 = 0 then t else if l t = 3 ∧ z (c t) ≤ k then tl_sub l c d z k (d t) (k - z (c t)) else tl_sub l c d z k (c t) k := rfl
  rw [e, if_neg (by omega), if_neg h]; rfl
theorem tl_z1 {T t : Nat} (tp : tl_TP T l c d z) (h : t < T) : 1 ≤ z t := by
  obtain ⟨b1, _, _, z1, z2, z3, _⟩ := tp t h
  rcases Nat.lt_or_ge (l t) 2 with h | h
  · have := z1 h; omega
  · by_cases h3 : l t = 3
    · have := z3 h3; omega
    · have := z2 (by omega); omega
theorem tl_suLe {T : Nat} (tp : tl_TP T l c d z) : ∀ f k t, k ≤ f → t < T → k < z t → tl_su l c d z t k ≤ t := by
  intro f
  induction f with
  | zero =>
    intro k t hk _ _
    have e : k = 0 := by omega
    subst e; exact Nat.le_refl t
  | succ f ih =>
    intro k t hk hT hz
    obtain ⟨b1, b2, b3, z1, z2, z3, _⟩ := tp t hT
    cases k with
    | zero => exact Nat.le_refl t
    | succ k =>
      have h2 : 2 ≤ l t := by
        rcases Nat.lt_or_ge (l t) 2 with h | h
        · have := z1 h; omega
        · exact h
      have hc := b2 h2
      by_cases h3 : l t = 3
      · have hd := b3 h3
        have hz3 := z3 h3
        by_cases hk2 : z (c t) ≤ k
        · rw [tl_su3 h3 hk2]
          have := ih (k - z (c t)) (d t) (by omega) (by omega) (by omega)
          omega
        · rw [tl_suN (by omega)]
          have := ih k (c t) (by omega) (by omega) (by omega)
          omega
      · have hz2 := z2 (by omega)
        rw [tl_suN (by omega)]
        have := ih k (c t) (by omega) (by omega) (by omega)
        omega
end
section
variable {xt xd xm : Int32} {lS oS tS fS le fi se si ra tz st ru sk : Nat → Int32}
variable {l c d z : Nat → Nat}
theorem xr_sub {post : Int32 → Prop} {T : Nat} (hT : T ≤ 582) (tp : tl_TP T l c d z) (ta : xr_TA T l c d le fi se) (hsi : ∀ t, t < T → si t = nI (z t)) :
    ∀ f k t s, k ≤ f → k + s ≤ 11 → t < T → k < z t → post (nI (tl_su l c d z t k)) → wX_subtreeAt_8 post xt xd xm lS oS tS fS le fi se si ra tz st ru sk (f + 1) (nI t) (nI k) (nI s) := by
  intro f
  induction f with
  | zero =>
    intro k t s hk hs _ _ h
    have e : k = 0 := by omega
    subst e
    exact br_f (nI_ge (b := 12) (by omega) (by decide)) (br_t (by decide) h)
  | succ f ih =>
    intro k t s hk hs ht hz h
    refine br_f (nI_ge (b := 12) (by omega) (by decide)) ?_
    cases k with
    | zero => exact br_t (by decide) h
    | succ k =>
      obtain ⟨b1, b2, b3, z1, z2, z3, z12⟩ := tp t ht
      obtain ⟨a1, a2, a3⟩ := ta t ht
      have h2 : 2 ≤ l t := by
        rcases Nat.lt_or_ge (l t) 2 with h | h
        · have := z1 h; omega
        · exact h
      have hc := b2 h2
      have hin : vp_in (nI t) 582 := vp_in_nI (by omega) (by decide)
      have hcin : vp_in (nI (c t)) 582 := vp_in_nI (by omega) (by decide)
      have hcl : (nI t).toNatClampNeg = t := nI_clamp (by omega)
      have hcc : (nI (c t)).toNatClampNeg = c t := nI_clamp (by omega)
      refine br_f (nI_nle (by omega) (by omega)) ⟨hin, nm_r (e' := nI (c t)) (by rw [hcl, a2 h2]) (nm_r (nI_pred k) ⟨hin, ?_⟩)⟩
      rw [hcl, a1, hcc, hsi (c t) (by omega)]
      by_cases h3 : l t = 3
      · have hd := b3 h3
        have hz3 := z3 h3
        refine br_t (by rw [h3]; rfl) ⟨hcin, ?_⟩
        by_cases hk2 : z (c t) ≤ k
        · rw [tl_su3 h3 hk2] at h
          exact br_f (nI_nlt hk2 (by omega)) ⟨hcin, nm_r (pk_sub hk2) ⟨hin, nm_r (a3 h3) (nm_r (nI_1 s) (ih (k - z (c t)) (d t) (s + 1) (by omega) (by omega) (by omega) (by omega) h))⟩⟩
        · rw [tl_suN (by omega)] at h
          exact br_t (nI_lt (by omega) (by omega)) (nm_r (nI_1 s) (ih k (c t) (s + 1) (by omega) (by omega) (by omega) (by omega) h))
      · have hz2 := z2 (by omega)
        rw [tl_suN (by omega)] at h
        exact br_f (yr_ne (b := 3) h3 (by omega) (by decide)) (nm_r (nI_1 s) (ih k (c t) (s + 1) (by omega) (by omega) (by omega) (by omega) h))
end
section
variable {yn ye ys yd : Int32} {lS oS tS fS le fI sE si bg tO ra sts wy mk sk op : Nat → Int32}
variable {l c d z : Nat → Nat}
/-- a leaf has no children there, a tree with letter 2 no second one -/
def yr_TN (T : Nat) (l : Nat → Nat) (fI sE : Nat → Int32) : Prop := ∀ t, t < T → (l t < 2 → fI t = -1) ∧ (l t < 3 → sE t = -1)
theorem yr_walk {post : Int32 → SY → Prop} {T : Nat} {x1 : Int32} (hT : T ≤ 600) (tp : tl_TP T l c d z) (ta : yr_TA T l c d le fI sE) (tn : yr_TN T l fI sE) :
    ∀ t, t < T → ∀ (n p f : Nat) (op : Nat → Int32), n + z t ≤ 24 → p + z t ≤ 100 → op n = nI t →
      (∀ k, k < z t → x1 = nI (p + k) → ∀ op' : Nat → Int32, post (le (tl_su l c d z t k)) (yn, ye, ys, yd, lS, oS, tS, fS, le, fI, sE, si, bg, tO, ra, sts, wy, mk, sk, op')) →
      ((∀ k, k < z t → x1 ≠ nI (p + k)) → ∀ op' : Nat → Int32, (∀ j, j < n → op' j = op j) → wY_letter_31 post x1 yn ye ys yd f (nI n) (nI (p + z t)) lS oS tS fS le fI sE si bg tO ra sts wy mk sk op') →
      wY_letter_31 post x1 yn ye ys yd (f + z t) (nI (n + 1)) (nI p) lS oS tS fS le fI sE si bg tO ra sts wy mk sk op := by
  intro t
  induction t using Nat.strongRecOn with
  | ind t ih =>
    intro ht n p f op hn hp hop H1 H2
    obtain ⟨b1, b2, b3, z1, z2, z3, z12⟩ := tp t ht
    obtain ⟨a1, a2, a3⟩ := ta t ht
    obtain ⟨n1, n2⟩ := tn t ht
    have hin : vp_in (nI t) 600 := vp_in_nI (by omega) (by decide)
    have hcl : (nI t).toNatClampNeg = t := nI_clamp (by omega)
    have hnn : (nI n).toNatClampNeg = n := nI_clamp (by omega)
    have z0 : 1 ≤ z t := by
      rcases Nat.lt_or_ge (l t) 2 with h | h
      · have := z1 h; omega
      · by_cases h3 : l t = 3
        · have := z3 h3; omega
        · have := z2 (by omega); omega
    obtain ⟨y, hy⟩ : ∃ y, z t = y + 1 := ⟨z t - 1, by omega⟩
    rw [hy]
    refine br_f (nI_nle (by omega) (by omega)) (nm_r (pk_m1 n) ⟨vp_in_nI (by omega) (by decide), nm_r (e' := nI t) (by rw [hnn, hop]) ?_⟩)
    by_cases hx : nI p = x1
    · exact br_t hx ⟨hin, by rw [hcl]; exact H1 0 (by omega) hx.symm op⟩
    · refine br_f hx (nm_r (nI_1 p) ⟨hin, ?_⟩)
      rw [hcl]
      by_cases h3 : l t = 3
      · have hc := b2 (by omega)
        have hd := b3 h3
        have hz3 := z3 h3
        have hc1 := tl_z1 tp (by omega : c t < T)
        have hcn : (nI (n + 1)).toNatClampNeg = n + 1 := nI_clamp (by omega)
        rw [a3 h3]
        refine br_f (nI_pos (by omega)) ⟨hin, vp_in_nI (by omega) (by decide), nm_r (e' := upd op n (nI (d t))) (by rw [hnn]) (nm_r (nI_1 n) ⟨hin, ?_⟩)⟩
        rw [hcl, a2 (by omega)]
        refine br_f (nI_pos (by omega)) ⟨hin, vp_in_nI (by omega) (by decide), nm_r (e' := upd (upd op n (nI (d t))) (n + 1) (nI (c t))) (by rw [hcn]) (nm_r (nI_1 (n + 1)) ?_)⟩
        have ey : f + y = (f + z (d t)) + z (c t) := by omega
        show wY_letter_31 post x1 yn ye ys yd (f + y) (nI (n + 1 + 1)) (nI (p + 1)) lS oS tS fS le fI sE si bg tO ra sts wy mk sk (upd (upd op n (nI (d t))) (n + 1) (nI (c t)))
        rw [ey]
        refine ih (c t) hc (by omega) (n + 1) (p + 1) (f + z (d t)) _ (by omega) (by omega) pk_us ?_ ?_
        · intro k hk e op'
          have e1 := H1 (k + 1) (by omega) (by rw [e]; exact congrArg nI (by omega)) op'
          rw [tl_suN (by omega)] at e1
          exact e1
        · intro nk op' ag
          have ed : op' n = nI (d t) := by
            rw [ag n (by omega), pk_un (by omega), pk_us]
          refine ih (d t) hd (by omega) n (p + 1 + z (c t)) f op' (by omega) (by omega) ed ?_ ?_
          · intro k hk e op''
            have e1 := H1 (z (c t) + k + 1) (by omega) (by rw [e]; exact congrArg nI (by omega)) op''
            rw [tl_su3 h3 (by omega), show z (c t) + k - z (c t) = k by omega] at e1
            exact e1
          · intro nk2 op'' ag2
            have e2 : p + 1 + z (c t) + z (d t) = p + z t := by omega
            rw [e2]
            refine H2 ?_ op'' ?_
            · intro k hk e
              rcases Nat.lt_or_ge k 1 with h0 | h0
              · have : k = 0 := by omega
                subst this; exact hx e.symm
              · rcases Nat.lt_or_ge (k - 1) (z (c t)) with h1 | h1
                · exact nk (k - 1) h1 (by rw [e]; exact congrArg nI (by omega))
                · exact nk2 (k - 1 - z (c t)) (by omega) (by rw [e]; exact congrArg nI (by omega))
            · intro j hj
              rw [ag2 j hj, ag j (by omega), pk_un (by omega), pk_un (by omega)]
      · rw [n2 (by omega)]
        refine br_t (by decide) ⟨hin, ?_⟩
        rw [hcl]
        by_cases h2 : l t = 2
        · have hc := b2 (by omega)
          have hz2 := z2 h2
          rw [a2 (by omega)]
          refine br_f (nI_pos (by omega)) ⟨hin, vp_in_nI (by omega) (by decide), nm_r (e' := upd op n (nI (c t))) (by rw [hnn]) (nm_r (nI_1 n) ?_)⟩
          have ey : f + y = f + z (c t) := by omega
          show wY_letter_31 post x1 yn ye ys yd (f + y) (nI (n + 1)) (nI (p + 1)) lS oS tS fS le fI sE si bg tO ra sts wy mk sk (upd op n (nI (c t)))
          rw [ey]
          refine ih (c t) hc (by omega) n (p + 1) f _ (by omega) (by omega) pk_us ?_ ?_
          · intro k hk e op'
            have e1 := H1 (k + 1) (by omega) (by rw [e]; exact congrArg nI (by omega)) op'
            rw [tl_suN (by omega)] at e1
            exact e1
          · intro nk op' ag
            have e2 : p + 1 + z (c t) = p + z t := by omega
            rw [e2]
            refine H2 ?_ op' ?_
            · intro k hk e
              rcases Nat.lt_or_ge k 1 with h0 | h0
              · have : k = 0 := by omega
                subst this; exact hx e.symm
              · exact nk (k - 1) (by omega) (by rw [e]; exact congrArg nI (by omega))
            · intro j hj
              rw [ag j hj, pk_un (by omega)]
        · have hz1 := z1 (by omega)
          rw [n1 (by omega)]
          refine br_t (by decide) ?_
          have e1 : f + y = f := by omega
          have e2 : p + 1 = p + z t := by omega
          show wY_letter_31 post x1 yn ye ys yd (f + y) (nI n) (nI (p + 1)) lS oS tS fS le fI sE si bg tO ra sts wy mk sk op
          rw [e1, e2]
          refine H2 ?_ op (fun _ _ => rfl)
          intro k hk e
          have : k = 0 := by omega
          subst this; exact hx e.symm
end
