section
/-! the 570 trees in their order: letter, children, size, rank -/
def tb_l (t : Nat) : Nat := 14934650266808366570320408622852960646761673277207226330614110735087816844749013262154996078651848582108360475310915294566518312586678747717366605686086578535186473409167900885946636800641365577064777390949364952591095586033565875202529333868203923886937022878141324114933030808934325416419646539408544885830610385500312339886308601186736929444 / 4 ^ t % 4
def tb_c (t : Nat) : Nat := 47207717338472013116651325826507397419021424273211876133134760465488362733176222631025433389708411577347511256605257622044737522164885537377221123340641759884866888165721452016039021360262319161626643169589720554954226672986519171637021016222100640746504333560042256234209157535353930320458571813334993899559306107019252998173032001370850224870058393105962789538725438500407798531437655191301543717786957179197156657796552953789553848020881887971979035743643320228089187877544893012912527521315283596136520015971470107979988718038895838921413032751191062980382608115233812770082609552449429730274994705129640230638953424309533317262167905099600152548529501620485769062774392006542551049745486156262295405508700008429777314718205962472121530051877063007693617095780036627600927653937025489950554771257317589764097369034100293037567559365814515152118925266395376770707662867360472992611974625259693066133994362996995947619877741903226888313338842736060331352435426675582243406451396785863521765854104872877063881745755751449982517063025205494010031997211246103398018613134135804177315133711699369554111441228823358001464179071127255765019250101522224555086421487168474354065699560368755214582553089353354163043142658260155943694781264772937379809305469185580754357242591698097935726163488051008730648960338663415562880976989414407910287806668876355242151040730335902219419980033775634572715474956745846646388173599012379730884454442555298511689260265755622544494798186917424149098749864110884080091887662804225487516315162695509385682622047410336141952437870703918492798353121195390605003864109967575174236619622877076080244734727222722045907331534623673625860185848655194662230496876319151954393171363426698375725056 / 1024 ^ t % 1024
def tb_d (t : Nat) : Nat := 725564026474245241378788004247485784606236898743364837779952974642820971328270633924011726130408515514015256982749230222517212602980715989007774011330541532467375847428890650955914306557431525492756122112187757509310878962859897320672956672090887339868692874272775813830659851181263727027924107646619155445275671252124888862119397754005794693053254351372828563975664632997995104189781807811129982666419424072690860807837363271734000291530527005496056670108007465764252532150553598466337835495823490752470953134431142479831749832897302424201627158444346200848108988685705257149625023072779642302251363042950672135156707638162942116317562804140058522716350875240298113081705170413982924769126148531860955608184132206269636624395138003011299385686001777639564385508602095591003521899391313187783333734225487950877757527967935739549252726502389340291350624753545266845485079990366820851133807027157774397322355750709649558201994481815107163856607980127266156998816813733522652495753645958862304057653714836680633792279999625024667487609441869669859829241487686766916938603818220731469636031450535253183833388265358945922234966822118270723444796697355430119445030317161350992935306823788830257199494695598727721391892097866252981593046334645671236182603168613890202463272298884302385731065739147822311432824103322290955556096576007883181878532041048890607509692461587677346017098429431036449309952283186142951142607326899731111943140916701413113212713254157173448855834664204527696717959934110495880358980075127725272816790233117105606334821325752054027353507368676728332969774158915167587128307344805367226635761961772316059916752962041426014546399153879742718709465397722844065880122053960286440789459389785057525760 / 1024 ^ t % 1024
def tb_z (t : Nat) : Nat := if t < 2 then 1 else if t < 4 then 2 else if t < 10 then 3 else if t < 24 then 4 else if t < 66 then 5 else if t < 188 then 6 else 7
def tb_r (t : Nat) : Nat := t - tl_S (tb_z t)
def tb_n (j : Nat) : Nat := ([0, 2, 2, 6, 14, 42, 122, 382, 1206, 3922, 12914, 43190, 145950, 498170, 1714026, 5940014, 20712646, 72623266, 255875298, 905477734] : List Nat).getD j 0
def tb_D (j : Nat) : Int32 := nI (tb_n j)
def tb_C (n : Nat) : Nat := tl_S (n + 1) - tl_S n
def tb_sm (n i : Nat) : Nat := tl_sum (fun q => tb_C (q + 1) * tb_C (n - 1 - (q + 1))) i
def tb_B (n k : Nat) : Nat := tl_S n + tb_C (n - 1) + tb_sm n (k - 1)
def tb_cut (T : Nat) (g : Nat → Int32) : Nat → Int32 := fun j => if j < T then g j else 0
theorem tb_lo {T j : Nat} {g : Nat → Int32} (h : j < T) : tb_cut T g j = g j := if_pos h
theorem tb_up {T : Nat} {g : Nat → Int32} {x : Int32} (h : x = g T) : upd (tb_cut T g) T x = tb_cut (T + 1) g := by
  funext j
  by_cases e : j = T
  · subst e; rw [pk_us, tb_lo (by omega)]; exact h
  · rw [pk_un e]
    unfold tb_cut
    by_cases h2 : j < T
    · rw [if_pos h2, if_pos (by omega)]
    · rw [if_neg h2, if_neg (by omega)]
theorem tb_0 {g : Nat → Int32} : tb_cut 0 g = fun _ => 0 := rfl
def tb_L (T : Nat) : Nat → Int32 := tb_cut T (fun t => nI (tb_l t))
def tb_F (T : Nat) : Nat → Int32 := tb_cut T (fun t => nI (tb_c t))
def tb_G (T : Nat) : Nat → Int32 := tb_cut T (fun t => nI (tb_d t))
def tb_Z (T : Nat) : Nat → Int32 := tb_cut T (fun t => nI (tb_z t))
def tb_R (T : Nat) : Nat → Int32 := tb_cut T (fun t => nI (tb_r t))
def tb_P (T : Nat) : Nat → Int32 := tb_cut T (fun t => if tb_l t < 2 then -1 else nI (tb_c t))
def tb_Q (T : Nat) : Nat → Int32 := tb_cut T (fun t => if tb_l t < 3 then -1 else nI (tb_d t))
def tb_T (n : Nat) : Nat → Int32 := tb_cut (n + 1) (fun j => nI (tl_S j))
def tb_N (n : Nat) : Nat → Int32 := tb_cut n tb_D
/-! what is checked of the list, number by number -/
theorem tb_k1 : ∀ n, n < 8 → 1 ≤ n → ∀ i, i < tb_C n → tb_z (tl_S n + i) = n := by decide +kernel
theorem tb_o1 : ∀ n, n < 8 → 2 ≤ n → ∀ i, i < tb_C (n - 1) → tl_S n + i < 570 ∧ tb_l (tl_S n + i) = 2 ∧ tb_c (tl_S n + i) = tl_S (n - 1) + i := by decide +kernel
theorem tb_o2 : ∀ n, n < 8 → 2 ≤ n → ∀ i, i < tb_C (n - 1) → tb_d (tl_S n + i) = 0 ∧ tb_z (tl_S n + i) = n ∧ tb_r (tl_S n + i) = tb_r (tl_S (n - 1) + i) := by decide +kernel
def tb_all (n k : Nat) (f : Nat → Nat → Bool) : Bool := (List.range (tb_C k)).all fun i => (List.range (tb_C (n - 1 - k))).all fun j => f i j
theorem tb_allE {n k : Nat} {f : Nat → Nat → Bool} (h : tb_all n k f = true) {i j : Nat} (hi : i < tb_C k) (hj : j < tb_C (n - 1 - k)) : f i j = true := by
  unfold tb_all at h
  rw [List.all_eq_true] at h
  have h2 := h i (List.mem_range.mpr hi)
  rw [List.all_eq_true] at h2
  exact h2 j (List.mem_range.mpr hj)
theorem tb_t1b : ∀ n, n < 8 → ∀ k, k < n → 1 ≤ k → k + 1 < n → tb_all n k (fun i j => decide (tb_B n k + i * tb_C (n - 1 - k) + j < 570 ∧ tb_l (tb_B n k + i * tb_C (n - 1 - k) + j) = 3)) = true := by decide +kernel
theorem tb_t1 : ∀ n, n < 8 → ∀ k, k < n → 1 ≤ k → k + 1 < n → ∀ i, i < tb_C k → ∀ j, j < tb_C (n - 1 - k) → tb_B n k + i * tb_C (n - 1 - k) + j < 570 ∧ tb_l (tb_B n k + i * tb_C (n - 1 - k) + j) = 3 :=
  fun n hn k hk h1 h2 i hi j hj => of_decide_eq_true (tb_allE (tb_t1b n hn k hk h1 h2) hi hj)
theorem tb_t2b : ∀ n, n < 8 → ∀ k, k < n → 1 ≤ k → k + 1 < n → tb_all n k (fun i j => decide (tb_c (tb_B n k + i * tb_C (n - 1 - k) + j) = tl_S k + i ∧ tb_d (tb_B n k + i * tb_C (n - 1 - k) + j) = tl_S (n - 1 - k) + j)) = true := by decide +kernel
theorem tb_t2 : ∀ n, n < 8 → ∀ k, k < n → 1 ≤ k → k + 1 < n → ∀ i, i < tb_C k → ∀ j, j < tb_C (n - 1 - k) → tb_c (tb_B n k + i * tb_C (n - 1 - k) + j) = tl_S k + i ∧ tb_d (tb_B n k + i * tb_C (n - 1 - k) + j) = tl_S (n - 1 - k) + j :=
  fun n hn k hk h1 h2 i hi j hj => of_decide_eq_true (tb_allE (tb_t2b n hn k hk h1 h2) hi hj)
theorem tb_t3b : ∀ n, n < 8 → ∀ k, k < n → 1 ≤ k → k + 1 < n → tb_all n k (fun i j => decide (tb_z (tb_B n k + i * tb_C (n - 1 - k) + j) = n ∧ tb_r (tb_B n k + i * tb_C (n - 1 - k) + j) = tb_C (n - 1) + tb_sm n (k - 1) + tb_r (tl_S k + i) * tb_C (n - 1 - k) + tb_r (tl_S (n - 1 - k) + j))) = true := by decide +kernel
theorem tb_t3 : ∀ n, n < 8 → ∀ k, k < n → 1 ≤ k → k + 1 < n → ∀ i, i < tb_C k → ∀ j, j < tb_C (n - 1 - k) → tb_z (tb_B n k + i * tb_C (n - 1 - k) + j) = n ∧ tb_r (tb_B n k + i * tb_C (n - 1 - k) + j) = tb_C (n - 1) + tb_sm n (k - 1) + tb_r (tl_S k + i) * tb_C (n - 1 - k) + tb_r (tl_S (n - 1 - k) + j) :=
  fun n hn k hk h1 h2 i hi j hj => of_decide_eq_true (tb_allE (tb_t3b n hn k hk h1 h2) hi hj)
theorem tb_t4b : ∀ n, n < 8 → ∀ k, k < n → 1 ≤ k → k + 1 < n → tb_all n k (fun i j => decide (tl_S k + i < tb_B n k + i * tb_C (n - 1 - k) + j ∧ tl_S (n - 1 - k) + j < tb_B n k + i * tb_C (n - 1 - k) + j)) = true := by decide +kernel
theorem tb_t4 : ∀ n, n < 8 → ∀ k, k < n → 1 ≤ k → k + 1 < n → ∀ i, i < tb_C k → ∀ j, j < tb_C (n - 1 - k) → tl_S k + i < tb_B n k + i * tb_C (n - 1 - k) + j ∧ tl_S (n - 1 - k) + j < tb_B n k + i * tb_C (n - 1 - k) + j :=
  fun n hn k hk h1 h2 i hi j hj => of_decide_eq_true (tb_allE (tb_t4b n hn k hk h1 h2) hi hj)
theorem tb_b1 : ∀ n, n < 8 → 2 ≤ n → tb_B n 1 = tl_S n + tb_C (n - 1) ∧ tb_B n (n - 1) = tl_S (n + 1) := by decide +kernel
theorem tb_b2 : ∀ n, n < 8 → ∀ k, k < n → 1 ≤ k → k + 1 < n → tb_B n (k + 1) = tb_B n k + tb_C k * tb_C (n - 1 - k) := by decide +kernel
theorem tb_s1 : ∀ n, n < 8 → 1 ≤ n → tl_S (n + 1) = tl_S n + tb_C n ∧ tl_S (n + 1) ≤ 570 := by decide +kernel
theorem tb_n1 : ∀ j, j < 8 → tb_n j = tb_C j := by decide +kernel
theorem tb_sI1 : ∀ n, n < 8 → ∀ k, k < n → tl_sI (tb_N 12) n (k - 1) = nI (tb_sm n (k - 1)) := by decide +kernel
theorem tb_D1 : ∀ n, n < 20 → 2 ≤ n → tb_N n (n - 1) + tl_sI (tb_N n) n (n - 2) = tb_D n := by decide +kernel
theorem tb_p1 : ∀ t, t < 570 → tb_l t ≤ 3 ∧ (2 ≤ tb_l t → tb_c t < t) ∧ (tb_l t = 3 → tb_d t < t) := by decide +kernel
theorem tb_p2 : ∀ t, t < 570 → (tb_l t < 2 → tb_z t = 1) ∧ (tb_l t = 2 → tb_z t = 1 + tb_z (tb_c t)) := by decide +kernel
theorem tb_p3 : ∀ t, t < 570 → (tb_l t = 3 → tb_z t = 1 + tb_z (tb_c t) + tb_z (tb_d t)) ∧ tb_z t ≤ 12 := by decide +kernel
theorem tb_p4 : ∀ t, t < 570 → tl_S (tb_z t) ≤ t ∧ 1 ≤ tb_z t ∧ tb_z t ≤ 7 := by decide +kernel
theorem tb_p5 : ∀ t, t < 2 → tb_l t = t ∧ tb_c t = 0 ∧ tb_d t = 0 := by decide +kernel
theorem tb_p6 : ∀ t, t < 2 → tb_z t = 1 ∧ tb_r t = t := by decide +kernel
end
