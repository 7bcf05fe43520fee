-- the tests of arguments
theorem mt_Xr_t {post : Int32 → Prop} {r : Nat} (hr : r < 3) (h : post 1) : wpX_isReplica post (nI r) :=
  br_f (nI_pos (by omega)) (br_f (nI_ge (b := 3) hr (by decide)) h)
theorem mt_Xr_f {post : Int32 → Prop} {x : Int32} (hx : ¬ ∃ r : Nat, r < 3 ∧ x = nI r) (h : post 0) : wpX_isReplica post x := by
  refine br_c (fun _ => h) (fun h0 => br_c (fun _ => h) (fun h3 => ?_))
  rcases pk_ix x (n := 3) (by decide) with a | a | a
  · exact absurd a h0
  · exact absurd a h3
  · exact absurd a hx
theorem mt_Xn_t {post : Int32 → Prop} {r : Nat} (hr : r < 10) (h : post 1) : wpX_isNode post (nI r) :=
  br_f (nI_pos (by omega)) (br_f (nI_ge (b := 10) hr (by decide)) h)
theorem mt_Xn_f {post : Int32 → Prop} {x : Int32} (hx : ¬ ∃ r : Nat, r < 10 ∧ x = nI r) (h : post 0) : wpX_isNode post x := by
  refine br_c (fun _ => h) (fun h0 => br_c (fun _ => h) (fun h3 => ?_))
  rcases pk_ix x (n := 10) (by decide) with a | a | a
  · exact absurd a h0
  · exact absurd a h3
  · exact absurd a hx
theorem mt_Yr_t {post : Int32 → Prop} {r : Nat} (hr : r < 3) (h : post 0) : wpY_bad post (nI r) :=
  br_f (nI_pos (by omega)) (br_t (nI_le (b := 2) (by omega) (by decide)) h)
theorem mt_Yr_f {post : Int32 → Prop} {x : Int32} (hx : ¬ ∃ r : Nat, r < 3 ∧ x = nI r) (h : post 1) : wpY_bad post x := by
  refine br_c (fun _ => h) (fun h0 => br_c (fun h3 => ?_) (fun _ => h))
  obtain ⟨j, hj, e⟩ := nI_of2 (M := 2) (n := 2) (by decide) h0 h3
  exact absurd ⟨j, by omega, e⟩ hx
theorem mt_Yn_t {post : Int32 → Prop} {r : Nat} (hr : r < 10) (h : post 0) : wpY_badNode post (nI r) :=
  br_f (nI_pos (by omega)) (br_t (nI_le (b := 9) (by omega) (by decide)) h)
theorem mt_Yn_f {post : Int32 → Prop} {x : Int32} (hx : ¬ ∃ r : Nat, r < 10 ∧ x = nI r) (h : post 1) : wpY_badNode post x := by
  refine br_c (fun _ => h) (fun h0 => br_c (fun h3 => ?_) (fun _ => h))
  obtain ⟨j, hj, e⟩ := nI_of2 (M := 9) (n := 9) (by decide) h0 h3
  exact absurd ⟨j, by omega, e⟩ hx
-- what the class shows at r; what of it the others keep
def mt_VX (r : Nat) (sp sb sm : Nat → Int32) (T : mt_T) : Prop := (∀ n, n < 10 → sp (r * 10 + n) = T.1 n ∧ sb (r * 10 + n) = T.2.1 n) ∧ sm r = T.2.2
def mt_FR (r : Nat) (sp sb sm sp' sb' sm' : Nat → Int32) : Prop := ∀ r', r' < 3 → r' ≠ r → (∀ n, n < 10 → sp' (r' * 10 + n) = sp (r' * 10 + n) ∧ sb' (r' * 10 + n) = sb (r' * 10 + n)) ∧ sm' r' = sm r'
theorem mt_FR_r {r : Nat} {sp sb sm : Nat → Int32} : mt_FR r sp sb sm sp sb sm := fun _ _ _ => ⟨fun _ _ => ⟨rfl, rfl⟩, rfl⟩
theorem mt_FR_t {r : Nat} {sp sb sm sp' sb' sm' sp2 sb2 sm2 : Nat → Int32} (h : mt_FR r sp sb sm sp' sb' sm') (g : mt_FR r sp' sb' sm' sp2 sb2 sm2) : mt_FR r sp sb sm sp2 sb2 sm2 :=
  fun r' hr ne => ⟨fun n hn => ⟨((g r' hr ne).1 n hn).1.trans ((h r' hr ne).1 n hn).1, ((g r' hr ne).1 n hn).2.trans ((h r' hr ne).1 n hn).2⟩, (g r' hr ne).2.trans (h r' hr ne).2⟩
theorem mt_FR_p {r j : Nat} {sp sb sm : Nat → Int32} {x : Int32} (hj : j < 10) : mt_FR r sp sb sm (upd sp (r * 10 + j) x) sb sm :=
  fun r' _ ne => ⟨fun n hn => ⟨pk_un (by omega), rfl⟩, rfl⟩
theorem mt_FR_l {r j : Nat} {sp sb sm : Nat → Int32} {x : Int32} (hj : j < 10) : mt_FR r sp sb sm sp (upd sb (r * 10 + j) x) sm :=
  fun r' _ ne => ⟨fun n hn => ⟨rfl, pk_un (by omega)⟩, rfl⟩
theorem mt_FR_s {r : Nat} {sp sb sm : Nat → Int32} {x : Int32} : mt_FR r sp sb sm sp sb (upd sm r x) :=
  fun r' _ ne => ⟨fun n hn => ⟨rfl, rfl⟩, pk_un ne⟩
theorem mt_FR_V {r r' : Nat} {sp sb sm sp' sb' sm' : Nat → Int32} {T : mt_T} (h : mt_FR r sp sb sm sp' sb' sm') (hr : r' < 3) (ne : r' ≠ r) (g : mt_VX r' sp sb sm T) : mt_VX r' sp' sb' sm' T :=
  ⟨fun n hn => ⟨((h r' hr ne).1 n hn).1.trans (g.1 n hn).1, ((h r' hr ne).1 n hn).2.trans (g.1 n hn).2⟩, (h r' hr ne).2.trans g.2⟩
theorem mt_upd10 {f g : Nat → Int32} {r j : Nat} {x : Int32} (h : ∀ n, n < 10 → f (r * 10 + n) = g n) : ∀ n, n < 10 → upd f (r * 10 + j) x (r * 10 + n) = upd g j x n := by
  intro n hn
  by_cases e : n = j
  · rw [e, pk_us, pk_us]
  · rw [pk_un (by omega), pk_un e]; exact h n hn
section
variable {cm : Int32} {iv cn op kn : Nat → Int32}
theorem mt_X_ab {sp sb sm : Nat → Int32} {r : Nat} (hr : r < 3) {p : Nat → Int32} (hp : ∀ n, n < 10 → sp (r * 10 + n) = p n) (ho : ∀ n, n < 10 → mt_ok (p n)) (nd : Int32) (post : Int32 → Prop) :
    ∀ (d i n : Nat) (a : Int32), i + d = 10 → d < n → mt_ok a → post (mt_ab p nd d a) → wX_isAtOrAbove_6 post (nI r) nd cm iv cn op kn sp sb sm n a (nI i) := by
  intro d
  induction d with
  | zero =>
    intro i n a hi hn _ hq
    obtain ⟨n, rfl⟩ : ∃ k, n = k + 1 := ⟨n - 1, by omega⟩
    exact br_t (nI_le (a := 10) (by omega) (by omega)) hq
  | succ d ih =>
    intro i n a hi hn ha hq
    obtain ⟨n, rfl⟩ : ∃ k, n = k + 1 := ⟨n - 1, by omega⟩
    refine br_f (nI_ge (b := 10) (by omega) (by decide)) ?_
    rw [mt_ab] at hq
    by_cases h1 : a = -1
    · rw [if_pos h1] at hq; exact br_t h1 hq
    · rw [if_neg h1] at hq
      refine br_f h1 ?_
      by_cases h2 : a = nd
      · rw [if_pos h2] at hq; exact br_t h2 hq
      · rw [if_neg h2] at hq
        refine br_f h2 ?_
        rcases ha with ha | ⟨j, hj, rfl⟩
        · exact absurd ha h1
        · rw [mt_cl (by omega)] at hq
          refine ⟨mt_in10 hr hj, nm_r (by rw [mt_c10 hr hj, hp j hj]) (nm_r (nI_1 i) ?_)⟩
          exact ih (i + 1) n _ (by omega) (by omega) (ho j hj) hq
theorem mt_X_co {sp sb sm : Nat → Int32} {r s : Nat} (hr : r < 3) (hs : s < 180) {T : mt_T} (hT : mt_VX r sp sb sm T) (ho : ∀ n, n < 10 → mt_ok (T.1 n)) (hv : mt_v (iv s) (cn s) (op s)) (post : Int32 → SX → Prop)
    (H : ∀ sp' sb' sm' : Nat → Int32, mt_VX r sp' sb' sm' (mt_ap (iv s) (cn s) (op s) T) → mt_FR r sp sb sm sp' sb' sm' → post (mt_an (iv s) (cn s) (op s) T) (cm, iv, cn, op, kn, sp', sb', sm')) :
    wpX_carryOut post (cm, iv, cn, op, kn, sp, sb, sm) (nI r) (nI s) := by
  obtain ⟨⟨j, hj, ej⟩, hm⟩ := hv
  have e : (nI s).toNatClampNeg = s := nI_clamp (by omega)
  have i1 : vp_in (nI s) 180 := vp_in_nI hs (by decide)
  have i3 : vp_in (nI r) 3 := vp_in_nI hr (by decide)
  have er : (nI r).toNatClampNeg = r := nI_clamp (by omega)
  unfold mt_ap mt_an at H
  unfold wpX_carryOut
  dsimp only
  rw [e, ej]
  rw [ej, mt_cl (by omega : j < 1000)] at H
  refine ⟨i1, nm_e ⟨i1, ?_⟩⟩
  by_cases z : iv s = 0
  · rw [if_pos z, if_pos z] at H
    refine br_t z ⟨i1, mt_in10 hr hj, nm_r (by rw [mt_c10 hr hj]) ?_⟩
    refine H _ _ _ ⟨fun n hn => ⟨(hT.1 n hn).1, ?_⟩, hT.2⟩ (mt_FR_l hj)
    exact mt_upd10 (fun n hn => (hT.1 n hn).2) n hn
  · rw [if_neg z, if_neg z] at H
    obtain ⟨q, hq, eq⟩ := hm z
    refine br_f z ⟨i1, ?_⟩
    unfold wpX_isAtOrAbove
    dsimp only
    refine ⟨11, mt_X_ab hr (fun n hn => (hT.1 n hn).1) ho (nI j) _ 10 0 11 (op s) rfl (by decide) (Or.inr ⟨q, hq, eq⟩) ?_⟩
    rcases mt_ab01 T.1 (nI j) 10 (op s) with y | y
    · rw [y] at H ⊢
      rw [if_pos rfl] at H
      refine br_t rfl ⟨i1, mt_in10 hr hj, nm_r (by rw [mt_c10 hr hj]) ?_⟩
      refine H _ _ _ ⟨fun n hn => ⟨?_, (hT.1 n hn).2⟩, hT.2⟩ (mt_FR_p hj)
      exact mt_upd10 (fun n hn => (hT.1 n hn).1) n hn
    · rw [y] at H ⊢
      rw [if_neg (by decide)] at H
      refine br_f (by decide) ⟨i3, i3, nm_r (by rw [er]) ?_⟩
      refine H _ _ _ ⟨hT.1, ?_⟩ mt_FR_s
      rw [pk_us, hT.2]
theorem mt_X_47 {r : Nat} (hr : r < 3) (hv : ∀ s, s < 180 → ¬ kn (r * 180 + s) = 0 → mt_v (iv s) (cn s) (op s)) (post : SX → Prop) :
    ∀ (d i n : Nat) (sp sb sm : Nat → Int32), i + d = 180 → d < n → mt_VX r sp sb sm (mt_rp iv cn op kn r i) → (∀ sp' sb' sm' : Nat → Int32, mt_VX r sp' sb' sm' (mt_rp iv cn op kn r 180) → mt_FR r sp sb sm sp' sb' sm' → post (cm, iv, cn, op, kn, sp', sb', sm')) → wX_showAnew_47 post (nI r) n (nI i) cm iv cn op kn sp sb sm := by
  intro d
  induction d with
  | zero =>
    intro i n sp sb sm hi hn hV H
    obtain ⟨n, rfl⟩ : ∃ k, n = k + 1 := ⟨n - 1, by omega⟩
    refine br_t (nI_le (a := 180) (by omega) (by omega)) ?_
    rw [show i = 180 from by omega] at hV
    exact H _ _ _ hV mt_FR_r
  | succ d ih =>
    intro i n sp sb sm hi hn hV H
    obtain ⟨n, rfl⟩ : ∃ k, n = k + 1 := ⟨n - 1, by omega⟩
    have hi2 : i < 180 := by omega
    refine br_f (nI_ge (b := 180) hi2 (by decide)) ⟨mt_in180 hr hi2, ?_⟩
    rw [mt_c180 hr hi2]
    by_cases z : kn (r * 180 + i) = 0
    · refine br_t z (nm_r (nI_1 i) ?_)
      exact ih (i + 1) n sp sb sm (by omega) (by omega) (by rw [mt_rp_n z]; exact hV) H
    · refine br_f z ?_
      refine mt_X_co hr hi2 hV (mt_rp_ok i (fun s hs => hv s (by omega))) (hv i hi2 z) _ ?_
      intro sp' sb' sm' hV' hF
      refine nm_r (nI_1 i) ?_
      exact ih (i + 1) n sp' sb' sm' (by omega) (by omega) (by rw [mt_rp_y z]; exact hV') (fun a b c h1 h2 => H a b c h1 (mt_FR_t hF h2))
theorem mt_X_2 {r : Nat} (hr : r < 3) (post : SX → Prop) (sm : Nat → Int32) :
    ∀ (d i n : Nat) (sp sb : Nat → Int32), i + d = 10 → d < n → (∀ k, k < i → sp (r * 10 + k) = -1 ∧ sb (r * 10 + k) = 0) → (∀ sp' sb' sm' : Nat → Int32, mt_VX r sp' sb' sm' mt_t0 → mt_FR r sp sb sm sp' sb' sm' → ∃ n47 : Nat, wX_showAnew_47 post (nI r) n47 0 cm iv cn op kn sp' sb' sm') → wX_showAnew_2 post (nI r) cm n (nI i) iv cn op kn sp sb sm := by
  intro d
  induction d with
  | zero =>
    intro i n sp sb hi hn hV H
    obtain ⟨n, rfl⟩ : ∃ k, n = k + 1 := ⟨n - 1, by omega⟩
    have ei : i = 10 := by omega
    refine br_t (nI_le (a := 10) (by omega) (by omega)) ⟨vp_in_nI hr (by decide), nm_r (by rw [mt_cl (by omega)]) ?_⟩
    exact H sp sb _ ⟨fun n hn => hV n (by omega), pk_us⟩ mt_FR_s
  | succ d ih =>
    intro i n sp sb hi hn hV H
    obtain ⟨n, rfl⟩ : ∃ k, n = k + 1 := ⟨n - 1, by omega⟩
    have hi2 : i < 10 := by omega
    refine br_f (nI_ge (b := 10) hi2 (by decide)) ⟨mt_in10 hr hi2, nm_r (by rw [mt_c10 hr hi2]) ⟨mt_in10 hr hi2, nm_r (by rw [mt_c10 hr hi2]) (nm_r (nI_1 i) ?_)⟩⟩
    refine ih (i + 1) n _ _ (by omega) (by omega) (fun k hk => ?_) (fun a b c h1 h2 => H a b c h1 (mt_FR_t (mt_FR_t (mt_FR_p hi2) (mt_FR_l hi2)) h2))
    by_cases e : k = i
    · rw [e, pk_us, pk_us]; exact ⟨rfl, rfl⟩
    · rw [pk_un (by omega), pk_un (by omega)]; exact hV k (by omega)
theorem mt_X_sa {sp sb sm : Nat → Int32} {r : Nat} (hr : r < 3) (hv : ∀ s, s < 180 → ¬ kn (r * 180 + s) = 0 → mt_v (iv s) (cn s) (op s)) (post : SX → Prop)
    (H : ∀ sp' sb' sm' : Nat → Int32, mt_VX r sp' sb' sm' (mt_rp iv cn op kn r 180) → mt_FR r sp sb sm sp' sb' sm' → post (cm, iv, cn, op, kn, sp', sb', sm')) :
    wpX_showAnew post (cm, iv, cn, op, kn, sp, sb, sm) (nI r) := by
  refine ⟨11, mt_X_2 hr post sm 10 0 11 sp sb rfl (by decide) (fun k hk => by omega) ?_⟩
  intro sp' sb' sm' hV hF
  exact ⟨181, mt_X_47 hr hv post 180 0 181 sp' sb' sm' rfl (by decide) hV (fun a b c h1 h2 => H a b c h1 (mt_FR_t hF h2))⟩
-- the next slot, looked for from above
theorem mt_X_ns4 {sp sb sm : Nat → Int32} {r q : Nat} (hr : r < 3) (h1 : ∀ s, s < 180 → ¬ kn (r * 180 + s) = 0 → s / 3 + 1 ≤ q) (h2 : q = 0 ∨ ∃ s, s < 180 ∧ ¬ kn (r * 180 + s) = 0 ∧ s / 3 + 1 = q) (post : Int32 → Prop) (hp : post (nI (3 * q + r))) :
    ∀ (i n : Nat) (x : Int32), i ≤ 180 → i < n → x = nI i + (-1) → (∀ s, i ≤ s → s < 180 → kn (r * 180 + s) = 0) → wX_nextSlot_4 post (nI r) cm iv cn op kn sp sb sm n x := by
  intro i
  induction i with
  | zero =>
    intro n x _ hn hx hz
    obtain ⟨n, rfl⟩ : ∃ k, n = k + 1 := ⟨n - 1, by omega⟩
    subst hx
    refine br_t (by decide) ?_
    rcases h2 with e | ⟨s, hs, k, _⟩
    · rw [e, Nat.mul_zero, Nat.zero_add] at hp; exact hp
    · exact absurd (hz s (by omega) hs) k
  | succ i ih =>
    intro n x hi hn hx hz
    obtain ⟨n, rfl⟩ : ∃ k, n = k + 1 := ⟨n - 1, by omega⟩
    rw [pk_m1] at hx
    subst hx
    refine br_f (nI_pos (by omega)) ⟨mt_in180 hr (by omega), ?_⟩
    rw [mt_c180 hr (by omega)]
    by_cases z : kn (r * 180 + i) = 0
    · refine br_t z (nm_e ?_)
      refine ih n _ (by omega) (by omega) rfl (fun s ha hb => ?_)
      by_cases e : s = i
      · rw [e]; exact z
      · exact hz s (by omega) hb
    · refine br_f z ⟨by decide, ?_⟩
      have l := h1 i (by omega) z
      have e : q = i / 3 + 1 := by
        rcases h2 with e | ⟨s, hs, k, e⟩
        · omega
        · have : s ≤ i := by
            by_cases g : s ≤ i
            · exact g
            · exact absurd (hz s (by omega) hs) k
          omega
      have e2 : (nI i / 3 + 1) * 3 + nI r = nI (3 * q + r) := by
        rw [show (3 : Int32) = nI 3 from rfl, pk_div (by omega) (by decide) (by decide), nI_1, pk_mul, nI_add, e, Nat.mul_comm]
      rw [e2]; exact hp
theorem mt_X_ns {sp sb sm : Nat → Int32} {r q : Nat} (hr : r < 3) (h1 : ∀ s, s < 180 → ¬ kn (r * 180 + s) = 0 → s / 3 + 1 ≤ q) (h2 : q = 0 ∨ ∃ s, s < 180 ∧ ¬ kn (r * 180 + s) = 0 ∧ s / 3 + 1 = q) (post : Int32 → Prop) (hp : post (nI (3 * q + r))) :
    wpX_nextSlot post (cm, iv, cn, op, kn, sp, sb, sm) (nI r) :=
  ⟨181, mt_X_ns4 hr h1 h2 post hp 180 181 179 (by decide) (by decide) (by decide) (fun s ha hb => by omega)⟩
theorem mt_X_mk {sp sb sm : Nat → Int32} {r q : Nat} (hr : r < 3) (hq : q < 60) (h1 : ∀ s, s < 180 → ¬ kn (r * 180 + s) = 0 → s / 3 + 1 ≤ q) (h2 : q = 0 ∨ ∃ s, s < 180 ∧ ¬ kn (r * 180 + s) = 0 ∧ s / 3 + 1 = q) {b x y : Int32} (hv : mt_v (vp_nar .boolean b) x y) {T : mt_T} (hT : mt_VX r sp sb sm T) (ho : ∀ n, n < 10 → mt_ok (T.1 n)) (post : Int32 → SX → Prop)
    (H : ∀ sp' sb' sm' : Nat → Int32, mt_VX r sp' sb' sm' (mt_ap (vp_nar .boolean b) x y T) → mt_FR r sp sb sm sp' sb' sm' → post (mt_an (vp_nar .boolean b) x y T) (cm + 1, upd iv (3 * q + r) (vp_nar .boolean b), upd cn (3 * q + r) x, upd op (3 * q + r) y, upd kn (r * 180 + (3 * q + r)) 1, sp', sb', sm')) :
    wpX_make post (cm, iv, cn, op, kn, sp, sb, sm) (nI r) b x y := by
  have ht : 3 * q + r < 180 := by omega
  have i1 : vp_in (nI (3 * q + r)) 180 := vp_in_nI ht (by decide)
  have e1 : (nI (3 * q + r)).toNatClampNeg = 3 * q + r := nI_clamp (by omega)
  unfold wpX_make
  dsimp only
  refine mt_X_ns hr h1 h2 _ ?_
  refine ⟨i1, nm_r (by rw [e1]) ⟨i1, nm_r (by rw [e1]) ⟨i1, nm_r (by rw [e1]) ⟨mt_in180 hr ht, nm_r (by rw [mt_c180 hr ht, mt_b1]) (nm_e ?_)⟩⟩⟩⟩
  refine mt_X_co hr ht hT ho ?_ _ ?_
  · rw [pk_us, pk_us, pk_us]; exact hv
  · rw [pk_us, pk_us, pk_us]
    exact fun a b c h1 h2 => H a b c h1 h2
-- the first that is missing
theorem mt_X_mi {sp sb sm : Nat → Int32} {f t s : Nat} (hf : f < 3) (ht : t < 3) (hs : s < 180) (post : Int32 → Prop) (ha : kn (f * 180 + s) = 0 → post 0) (hb : ¬ kn (f * 180 + s) = 0 → kn (t * 180 + s) = 0 → post 1) (hc : ¬ kn (f * 180 + s) = 0 → ¬ kn (t * 180 + s) = 0 → post 0) :
    wpX_isMissing post (cm, iv, cn, op, kn, sp, sb, sm) (nI f) (nI t) (nI s) := by
  unfold wpX_isMissing
  dsimp only
  rw [mt_c180 hf hs, mt_c180 ht hs]
  exact ⟨mt_in180 hf hs, br_c ha (fun z => ⟨mt_in180 ht hs, br_c (hb z) (hc z)⟩)⟩
theorem mt_X_fm2 {sp sb sm : Nat → Int32} {f t : Nat} (hf : f < 3) (ht : t < 3) (post : Int32 → Prop)
    (hN : (∀ s, s < 180 → s % 3 = f → ¬ kn (f * 180 + s) = 0 → ¬ kn (t * 180 + s) = 0) → post (-1))
    (hY : ∀ s, s < 180 → s % 3 = f → ¬ kn (f * 180 + s) = 0 → kn (t * 180 + s) = 0 → (∀ s', s' < s → s' % 3 = f → ¬ kn (f * 180 + s') = 0 → ¬ kn (t * 180 + s') = 0) → post (nI s)) :
    ∀ (d i n : Nat), i + d = 60 → d < n → (∀ s, s < 3 * i → s % 3 = f → ¬ kn (f * 180 + s) = 0 → ¬ kn (t * 180 + s) = 0) → wX_firstMissing_2 post (nI f) (nI t) cm iv cn op kn sp sb sm n (nI (3 * i + f)) := by
  intro d
  induction d with
  | zero =>
    intro i n hi hn hz
    obtain ⟨n, rfl⟩ : ∃ k, n = k + 1 := ⟨n - 1, by omega⟩
    exact br_t (nI_le (a := 180) (by omega) (by omega)) (hN (fun s hs => hz s (by omega)))
  | succ d ih =>
    intro i n hi hn hz
    obtain ⟨n, rfl⟩ : ∃ k, n = k + 1 := ⟨n - 1, by omega⟩
    have hs : 3 * i + f < 180 := by omega
    have go : (¬ kn (f * 180 + (3 * i + f)) = 0 → ¬ kn (t * 180 + (3 * i + f)) = 0) → wX_firstMissing_2 post (nI f) (nI t) cm iv cn op kn sp sb sm n (nI (3 * (i + 1) + f)) := by
      intro g
      refine ih (i + 1) n (by omega) (by omega) (fun s h1 h2 => ?_)
      by_cases e : s = 3 * i + f
      · rw [e]; exact g
      · exact hz s (by omega) h2
    have e3 : nI (3 * i + f) + 3 = nI (3 * (i + 1) + f) := by
      rw [show (3 : Int32) = nI 3 from rfl, nI_add, show 3 * i + f + 3 = 3 * (i + 1) + f from by omega]
    refine br_f (nI_ge (b := 180) hs (by decide)) ?_
    refine mt_X_mi hf ht hs _ (fun z => ?_) (fun z y => ?_) (fun z y => ?_)
    · exact br_t rfl (nm_r e3 (go (fun q => absurd z q)))
    · exact br_f (by decide) (hY _ hs (by omega) z y (fun s' h h2 => hz s' (by omega) h2))
    · exact br_t rfl (nm_r e3 (go (fun _ => y)))
theorem mt_X_fm {sp sb sm : Nat → Int32} {f t : Nat} (hf : f < 3) (ht : t < 3) (post : Int32 → Prop)
    (hN : (∀ s, s < 180 → s % 3 = f → ¬ kn (f * 180 + s) = 0 → ¬ kn (t * 180 + s) = 0) → post (-1))
    (hY : ∀ s, s < 180 → s % 3 = f → ¬ kn (f * 180 + s) = 0 → kn (t * 180 + s) = 0 → (∀ s', s' < s → s' % 3 = f → ¬ kn (f * 180 + s') = 0 → ¬ kn (t * 180 + s') = 0) → post (nI s)) :
    wpX_firstMissing post (cm, iv, cn, op, kn, sp, sb, sm) (nI f) (nI t) := by
  have h := mt_X_fm2 (cm := cm) (iv := iv) (cn := cn) (op := op) (sp := sp) (sb := sb) (sm := sm) hf ht post hN hY 60 0 61 rfl (by decide) (fun s hs => by omega)
  rw [Nat.mul_zero, Nat.zero_add] at h
  exact ⟨61, h⟩
theorem mt_X_sy {sp sb sm : Nat → Int32} {f t : Nat} (hf : f < 3) (ht : t < 3) (kn0 : Nat → Int32) (post : Int32 → SX → Prop)
    (H : wpX_showAnew (fun u => match u with | (f_changesMade_7, a_isMove_8, a_changedNode_9, a_operand_10, a_known_11, a_shownParent_12, a_shownLabel_13, a_skippedMoves_14) => (post (nI (mt_sy (f * 180) (t * 180) kn0 180).2) (f_changesMade_7, a_isMove_8, a_changedNode_9, a_operand_10, a_known_11, a_shownParent_12, a_shownLabel_13, a_skippedMoves_14))) (cm, iv, cn, op, (mt_sy (f * 180) (t * 180) kn0 180).1, sp, sb, sm) (nI t)) :
    ∀ (d i n : Nat), i + d = 180 → d < n → wX_sync_21 post (nI f) (nI t) cm n (nI (mt_sy (f * 180) (t * 180) kn0 i).2) (nI i) iv cn op (mt_sy (f * 180) (t * 180) kn0 i).1 sp sb sm := by
  intro d
  induction d with
  | zero =>
    intro i n hi hn
    obtain ⟨n, rfl⟩ : ∃ k, n = k + 1 := ⟨n - 1, by omega⟩
    refine br_t (nI_le (a := 180) (by omega) (by omega)) ?_
    rw [show i = 180 from by omega]
    exact H
  | succ d ih =>
    intro i n hi hn
    obtain ⟨n, rfl⟩ : ∃ k, n = k + 1 := ⟨n - 1, by omega⟩
    have hs : i < 180 := by omega
    have g := ih (i + 1) n (by omega) (by omega)
    refine br_f (nI_ge (b := 180) hs (by decide)) ?_
    refine mt_X_mi hf ht hs _ (fun z => ?_) (fun z y => ?_) (fun z y => ?_)
    · rw [mt_sy, if_pos z] at g
      exact br_t rfl (nm_r (nI_1 i) g)
    · rw [mt_sy, if_neg z, if_pos y] at g
      exact br_f (by decide) ⟨mt_in180 ht hs, nm_r (by rw [mt_c180 ht hs, mt_b1]) (nm_r (nI_1 _) (nm_r (nI_1 i) g))⟩
    · rw [mt_sy, if_neg z, if_neg y] at g
      exact br_t rfl (nm_r (nI_1 i) g)
end
