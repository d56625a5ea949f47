section
variable {yn ye ys yd : Int32} {lS oS tS fS le fI sE si bg tO ra sts wy mk sk op : Nat → Int32}
/-- the reference's row of tree t -/
def yr_R (t : Nat) (P : Nat → Nat) (wy sts : Nat → Int32) : Prop := (∀ q, q < 4 → wy (4 * t + q) = nI (P q)) ∧ tl_Row (sts t) P
/-- nothing but row t has changed -/
def yr_F (t : Nat) (wy sts wy' sts' : Nat → Int32) : Prop := (∀ j, j < 4 * t ∨ 4 * t + 4 ≤ j → wy' j = wy j) ∧ ∀ j, j ≠ t → sts' j = sts j
theorem yr_Ft {t : Nat} {w s w' s' w'' s'' : Nat → Int32} (a : yr_F t w s w' s') (b : yr_F t w' s' w'' s'') : yr_F t w s w'' s'' :=
  ⟨fun j hj => (b.1 j hj).trans (a.1 j hj), fun j hj => (b.2 j hj).trans (a.2 j hj)⟩
theorem yr_FR {t u : Nat} {w s w' s' : Nat → Int32} {P : Nat → Nat} (a : yr_F t w s w' s') (h : u ≠ t) (r : yr_R u P w s) : yr_R u P w' s' :=
  ⟨fun q hq => (a.1 _ (by omega)).trans (r.1 q hq), by rw [a.2 u h]; exact r.2⟩
theorem yr_RE {t : Nat} {w s : Nat → Int32} {P Q : Nat → Nat} (h : ∀ q, q < 4 → P q = Q q) (r : yr_R t P w s) : yr_R t Q w s :=
  ⟨fun q hq => by rw [← h q hq]; exact r.1 q hq, r.2.1, fun q hq => by rw [← h q hq]; exact r.2.2 q hq⟩
theorem yr_4 (t i : Nat) : 4 * nI t + nI i = nI (4 * t + i) := by
  rw [show (4 : Int32) = nI 4 from rfl, pk_mul, nI_add]
theorem yr_allow {post : SY → Prop} {t : Nat} {set s more : Int32} {v : Nat} (P : Nat → Nat) (ht : t < 600) (hs : set = s) (hm : more = nI v) (h4 : tl_S4 s) (hv : 0 < v)
    (hR : yr_R t P wy sts)
    (h : ∀ wy' sts' : Nat → Int32, yr_F t wy sts wy' sts' → yr_R t (fun q => P q + tl_bi s q v) wy' sts' → post (yn, ye, ys, yd, lS, oS, tS, fS, le, fI, sE, si, bg, tO, ra, sts', wy', mk, sk, op)) :
    wpY_allow post (yn, ye, ys, yd, lS, oS, tS, fS, le, fI, sE, si, bg, tO, ra, sts, wy, mk, sk, op) (nI t) set more := by
  subst hs hm
  have hin : vp_in (nI t) 600 := vp_in_nI ht (by decide)
  have hcl : (nI t).toNatClampNeg = t := nI_clamp (by omega)
  refine ⟨hin, hin, nm_r (e' := upd sts t (sts t ||| set)) (by rw [hcl]) ?_⟩
  refine loop_0 (fun n i (r : Nat → Int32) => wY_allow_13 post (nI t) set (nI v) yn ye ys yd n (nI i) lS oS tS fS le fI sE si bg tO ra (upd sts t (sts t ||| set)) r mk sk op)
    (fun i r => (∀ j, j < 4 * t ∨ 4 * t + 4 ≤ j → r j = wy j) ∧ (∀ q, q < i → r (4 * t + q) = nI (P q + tl_bi set q v)) ∧ ∀ q, i ≤ q → q < 4 → r (4 * t + q) = nI (P q)) 4 wy ⟨fun _ _ => rfl, fun q hq => absurd hq (Nat.not_lt_zero q), fun q _ hq => hR.1 q hq⟩ ?_ ?_
  · intro n r I
    refine br_t (by decide) (h r _ ⟨I.1, fun j hj => pk_un hj⟩ ⟨I.2.1, ?_⟩)
    rw [pk_us]
    refine ⟨tl_s4or hR.2.1 h4, fun q hq => ?_⟩
    rw [b_or, hR.2.2 q hq]
    show _ = decide (0 < P q + tl_bi set q v)
    unfold tl_bi
    by_cases hb : bt set q = true
    · rw [if_pos hb, hb, Bool.or_true, decide_eq_true (by omega)]
    · rw [if_neg hb]; simp [hb]
  · intro n i r hi I K
    have hn : ¬ (4 : Int32) ≤ nI i := nI_ge (b := 4) hi (by decide)
    have e := yr_4 t i
    refine br_f hn ?_
    by_cases hb : bt set i = true
    · have hb0 : ((set >>> (nI i &&& 31)) &&& 1) = 1 := by rw [tl_bit1 set (by omega), hb]
      refine br_t hb0 ⟨pk_in (4 * t + i) 2400 (by omega) e, pk_in (4 * t + i) 2400 (by omega) e, nm_r (e' := upd r (4 * t + i) (nI (P i + v))) ?_ (nm_r (nI_1 i) (K _ ⟨?_, ?_, ?_⟩))⟩
      · rw [pk_cl (4 * t + i) e, I.2.2 i (Nat.le_refl i) hi, nI_add]
      · intro j hj
        rw [pk_un (by omega)]; exact I.1 j hj
      · intro q hq
        by_cases eq : q = i
        · subst eq
          rw [pk_us]; unfold tl_bi; rw [if_pos hb]
        · rw [pk_un (by omega)]; exact I.2.1 q (by omega)
      · intro q hq hq4
        rw [pk_un (by omega)]; exact I.2.2 q (by omega) hq4
    · have hb0 : ¬ ((set >>> (nI i &&& 31)) &&& 1) = 1 := by rw [tl_bit1 set (by omega)]; exact hb
      refine br_f hb0 (nm_r (nI_1 i) (K _ ⟨I.1, ?_, fun q hq hq4 => I.2.2 q (by omega) hq4⟩))
      intro q hq
      by_cases eq : q = i
      · subst eq
        rw [I.2.2 q (Nat.le_refl q) hi]; unfold tl_bi; rw [if_neg hb]; rfl
      · exact I.2.1 q (by omega)
theorem yr_nlt2 {n : Nat} (h : 2 ≤ n) (h3 : n ≤ 3) : ¬ nI n < 2 := nI_nlt (b := 2) h (by omega)
theorem yr_ne {a b : Nat} (h : a ≠ b) (ha : a < 2 ^ 31) (hb : b < 2 ^ 31) : ¬ nI a = nI b := fun z => h ((nI_eq ha hb).mp z)
/-- letter 2: the loop over the child's states -/
theorem yr_j2 {post : SY → Prop} {m t c : Nat} (w : Nat → Nat) (hm : m < 2) (ht : t < 600) (hc : c < t) (hl : le t = nI 2) (hf : fI t = nI c) (h4 : ∀ j, tl_S4 (oS j))
    (hw : yr_R c w wy sts) (h0 : yr_R t (fun _ => 0) wy sts)
    (h : ∀ wy' sts' : Nat → Int32, yr_F t wy sts wy' sts' → yr_R t (fun q => tl_sum (fun p => tl_bi (oS (4 * m + p)) q (w p)) 4) wy' sts' → post (yn, ye, ys, yd, lS, oS, tS, fS, le, fI, sE, si, bg, tO, ra, sts', wy', mk, sk, op)) :
    ∃ n, wY_judge_64 post (nI m) (nI t) n 0 yn ye ys yd lS oS tS fS le fI sE si bg tO ra sts wy mk sk op := by
  have hin : vp_in (nI t) 600 := vp_in_nI ht (by decide)
  have hcl : (nI t).toNatClampNeg = t := nI_clamp (by omega)
  have hcc : (nI c).toNatClampNeg = c := nI_clamp (by omega)
  refine loop_0 (fun n i (s : (Nat → Int32) × (Nat → Int32)) => wY_judge_64 post (nI m) (nI t) n (nI i) yn ye ys yd lS oS tS fS le fI sE si bg tO ra s.2 s.1 mk sk op)
    (fun i s => yr_F t wy sts s.1 s.2 ∧ yr_R t (fun q => tl_sum (fun p => tl_bi (oS (4 * m + p)) q (w p)) i) s.1 s.2) 4 (wy, sts) ⟨⟨fun _ _ => rfl, fun _ _ => rfl⟩, h0⟩ ?_ ?_
  · intro n s I
    exact br_t (by decide) (h _ _ I.1 I.2)
  · intro n i s hi I K
    obtain ⟨r, ss⟩ := s
    have hn : ¬ (4 : Int32) ≤ nI i := nI_ge (b := 4) hi (by decide)
    have hcR := yr_FR I.1 (by omega : c ≠ t) hw
    refine br_f hn ⟨hin, br_f (by rw [hcl, hl]; decide) ⟨hin, nm_r (e' := nI c) (by rw [hcl, hf]) ⟨hin, br_t (by rw [hcl, hl]; rfl) ⟨vp_in_nI (by omega) (by decide), ?_⟩⟩⟩⟩
    rw [hcc]
    have go : ∀ r' ss' : Nat → Int32, yr_F t r ss r' ss' → yr_R t (fun q => tl_sum (fun p => tl_bi (oS (4 * m + p)) q (w p)) (i + 1)) r' ss' →
        ∃ n141 : Nat, wY_judge_141 post (wY_judge_64 post (nI m) (nI t) n) (nI m) (nI t) (nI i) (nI c) n141 0 yn ye ys yd lS oS tS fS le fI sE si bg tO ra ss' r' mk sk op := by
      intro r' ss' f g
      exact ⟨1, br_f (by decide) ⟨hin, br_f (by rw [hcl, hl]; decide) (nm_r (nI_1 i) (K (r', ss') ⟨yr_Ft I.1 f, g⟩))⟩⟩
    by_cases hb : bt (ss c) i = true
    · have e1 := yr_4 m i
      have e2 := yr_4 c i
      have hwi : 0 < w i := by
        have := hcR.2.2 i hi
        rw [hb] at this
        exact of_decide_eq_true this.symm
      refine br_t (by rw [tl_bit1 _ (by omega), hb]) ⟨pk_in (4 * m + i) 8 (by omega) e1, pk_in (4 * c + i) 2400 (by omega) e2, ?_⟩
      refine yr_allow (s := oS (4 * m + i)) (v := w i) (fun q => tl_sum (fun p => tl_bi (oS (4 * m + p)) q (w p)) i) ht ?_ ?_ (h4 _) hwi I.2 ?_
      · rw [pk_cl (4 * m + i) e1]
      · rw [pk_cl (4 * c + i) e2]; exact hcR.1 i hi
      · intro r' ss' f g
        exact go r' ss' f g
    · have hwi : w i = 0 := by
        have := hcR.2.2 i hi
        rw [Bool.not_eq_true _ |>.mp hb] at this
        have := of_decide_eq_false this.symm
        omega
      refine br_f (by rw [tl_bit1 _ (by omega)]; exact hb) (go r ss ⟨fun _ _ => rfl, fun _ _ => rfl⟩ (yr_RE (fun q _ => ?_) I.2))
      show _ = tl_sum (fun p => tl_bi (oS (4 * m + p)) q (w p)) i + tl_bi (oS (4 * m + i)) q (w i)
      rw [hwi, tl_bi0]; rfl
/-- letter 3: both loops -/
theorem yr_j3 {post : SY → Prop} {m t c d : Nat} (w v : Nat → Nat) (hm : m < 2) (ht : t < 600) (hc : c < t) (hd : d < t) (hl : le t = nI 3) (hf : fI t = nI c) (hg : sE t = nI d) (h4 : ∀ j, tl_S4 (tS j))
    (hw : yr_R c w wy sts) (hv : yr_R d v wy sts) (h0 : yr_R t (fun _ => 0) wy sts)
    (h : ∀ wy' sts' : Nat → Int32, yr_F t wy sts wy' sts' → yr_R t (fun q => tl_sum (fun j => tl_bi (tS (16 * m + j)) q (w (j % 4) * v (j / 4))) 16) wy' sts' → post (yn, ye, ys, yd, lS, oS, tS, fS, le, fI, sE, si, bg, tO, ra, sts', wy', mk, sk, op)) :
    ∃ n, wY_judge_64 post (nI m) (nI t) n 0 yn ye ys yd lS oS tS fS le fI sE si bg tO ra sts wy mk sk op := by
  have hin : vp_in (nI t) 600 := vp_in_nI ht (by decide)
  have hcl : (nI t).toNatClampNeg = t := nI_clamp (by omega)
  have hcc : (nI c).toNatClampNeg = c := nI_clamp (by omega)
  have hdd : (nI d).toNatClampNeg = d := nI_clamp (by omega)
  refine loop_0 (fun n i (s : (Nat → Int32) × (Nat → Int32)) => wY_judge_64 post (nI m) (nI t) n (nI i) yn ye ys yd lS oS tS fS le fI sE si bg tO ra s.2 s.1 mk sk op)
    (fun i s => yr_F t wy sts s.1 s.2 ∧ yr_R t (fun q => tl_sum (fun a => tl_sum (fun b => tl_bi (tS (16 * m + (a + 4 * b))) q (w a * v b)) 4) i) s.1 s.2) 4 (wy, sts) ⟨⟨fun _ _ => rfl, fun _ _ => rfl⟩, h0⟩ ?_ ?_
  · intro n s I
    refine br_t (by decide) (h _ _ I.1 (yr_RE (fun q _ => ?_) I.2))
    rw [← tl_sum44]
    refine tl_sumE 4 fun a ha => tl_sumE 4 fun b hb => ?_
    rw [show (a + 4 * b) % 4 = a by omega, show (a + 4 * b) / 4 = b by omega]
  · intro n i s hi I K
    obtain ⟨r, ss⟩ := s
    have hn : ¬ (4 : Int32) ≤ nI i := nI_ge (b := 4) hi (by decide)
    refine br_f hn ⟨hin, br_f (by rw [hcl, hl]; decide) ⟨hin, nm_r (e' := nI c) (by rw [hcl, hf]) ⟨hin, br_f (by rw [hcl, hl]; decide) ?_⟩⟩⟩
    refine loop_0 (fun n' j (s : (Nat → Int32) × (Nat → Int32)) => wY_judge_141 post (wY_judge_64 post (nI m) (nI t) n) (nI m) (nI t) (nI i) (nI c) n' (nI j) yn ye ys yd lS oS tS fS le fI sE si bg tO ra s.2 s.1 mk sk op)
      (fun j s => yr_F t wy sts s.1 s.2 ∧ yr_R t (fun q => tl_sum (fun a => tl_sum (fun b => tl_bi (tS (16 * m + (a + 4 * b))) q (w a * v b)) 4) i + tl_sum (fun b => tl_bi (tS (16 * m + (i + 4 * b))) q (w i * v b)) j) s.1 s.2) 4 (r, ss) I ?_ ?_
    · intro n' s J
      exact br_t (by decide) (nm_r (nI_1 i) (K s J))
    · intro n' j s hj J L
      obtain ⟨r, ss⟩ := s
      have hn : ¬ (4 : Int32) ≤ nI j := nI_ge (b := 4) hj (by decide)
      have hcR := yr_FR J.1 (by omega : c ≠ t) hw
      have hdR := yr_FR J.1 (by omega : d ≠ t) hv
      have skip : w i * v j = 0 → ∀ k : Int32, k = nI j + 1 → wY_judge_141 post (wY_judge_64 post (nI m) (nI t) n) (nI m) (nI t) (nI i) (nI c) n' k yn ye ys yd lS oS tS fS le fI sE si bg tO ra ss r mk sk op := by
        intro e0
        refine nm_r (nI_1 j) (L (r, ss) ⟨J.1, yr_RE (fun q _ => ?_) J.2⟩)
        show _ = _ + (tl_sum (fun b => tl_bi (tS (16 * m + (i + 4 * b))) q (w i * v b)) j + tl_bi (tS (16 * m + (i + 4 * j))) q (w i * v j))
        rw [e0, tl_bi0]; rfl
      refine br_f hn ⟨hin, br_t (by rw [hcl, hl]; rfl) ⟨hin, nm_r (e' := nI d) (by rw [hcl, hg]) ⟨vp_in_nI (by omega) (by decide), ?_⟩⟩⟩
      rw [hcc, hdd]
      by_cases hb : bt (ss c) i = true
      · refine br_t (by rw [tl_bit1 _ (by omega), hb]) ⟨vp_in_nI (by omega) (by decide), ?_⟩
        by_cases hb2 : bt (ss d) j = true
        · refine br_t (by rw [tl_bit1 _ (by omega), hb2]) ?_
          have e1 : 16 * nI m + nI i + 4 * nI j = nI (16 * m + (i + 4 * j)) := by
            rw [show (16 : Int32) = nI 16 from rfl, show (4 : Int32) = nI 4 from rfl, pk_mul, pk_mul, nI_add, nI_add, Nat.add_assoc]
          have e2 := yr_4 c i
          have e3 := yr_4 d j
          have p1 : 0 < w i := by
            have := hcR.2.2 i hi
            rw [hb] at this
            exact of_decide_eq_true this.symm
          have p2 : 0 < v j := by
            have := hdR.2.2 j hj
            rw [hb2] at this
            exact of_decide_eq_true this.symm
          refine br_f (by decide) ⟨pk_in (16 * m + (i + 4 * j)) 32 (by omega) e1, pk_in (4 * c + i) 2400 (by omega) e2, pk_in (4 * d + j) 2400 (by omega) e3, ?_⟩
          refine yr_allow (s := tS (16 * m + (i + 4 * j))) (v := w i * v j) _ ht ?_ ?_ (h4 _) (Nat.mul_pos p1 p2) J.2 ?_
          · rw [pk_cl _ e1]
          · rw [pk_cl _ e2, pk_cl _ e3, hcR.1 i hi, hdR.1 j hj, pk_mul]
          · intro r' ss' f g
            exact nm_r (nI_1 j) (L (r', ss') ⟨yr_Ft J.1 f, yr_RE (fun q _ => Nat.add_assoc _ _ _) g⟩)
        · refine br_f (by rw [tl_bit1 _ (by omega)]; exact hb2) (br_t rfl (skip ?_))
          have := hdR.2.2 j hj
          rw [Bool.not_eq_true _ |>.mp hb2] at this
          have := of_decide_eq_false this.symm
          rw [show v j = 0 by omega]; rfl
      · refine br_f (by rw [tl_bit1 _ (by omega)]; exact hb) (br_t rfl (skip ?_))
        have := hcR.2.2 i hi
        rw [Bool.not_eq_true _ |>.mp hb] at this
        have := of_decide_eq_false this.symm
        rw [show w i = 0 by omega, Nat.zero_mul]
end
