-- children
def mt_ch (p : Nat → Int32) (x : Int32) : Nat → Nat
  | 0 => 0
  | n + 1 => if p n = x then mt_ch p x n + 1 else mt_ch p x n
section
variable {cm : Int32} {iv cn op kn sp sb sm : Nat → Int32} {md sk : Int32} {og st mv nd ar kw pa la dn oq ol : Nat → Int32}
theorem mt_X_ch {r : Nat} (hr : r < 3) {p : Nat → Int32} (hp : ∀ n, n < 10 → sp (r * 10 + n) = p n) (x : Int32) (post : Int32 → Prop) (H : post (nI (mt_ch p x 10))) :
    ∀ (d i n : Nat), i + d = 10 → d < n → wX_children_21 post (nI r) x cm iv cn op kn sp sb sm n (nI (mt_ch p x i)) (nI i) := by
  intro d
  induction d with
  | zero =>
    intro i n hi hn
    obtain ⟨n, rfl⟩ : ∃ k, n = k + 1 := ⟨n - 1, by omega⟩
    obtain rfl : i = 10 := by omega
    exact br_t (by decide) H
  | succ d ih =>
    intro i n hi hn
    obtain ⟨n, rfl⟩ : ∃ k, n = k + 1 := ⟨n - 1, by omega⟩
    have hi2 : i < 10 := by omega
    have g := ih (i + 1) n (by omega) (by omega)
    refine br_f (nI_ge (b := 10) hi2 (by decide)) ⟨mt_in10 hr hi2, ?_⟩
    rw [mt_c10 hr hi2, hp i hi2]
    by_cases z : p i = x
    · rw [mt_ch, if_pos z] at g
      exact br_t z (nm_r (nI_1 _) (nm_r (nI_1 i) g))
    · rw [mt_ch, if_neg z] at g
      exact br_f z (nm_r (nI_1 i) g)
theorem mt_Y_ch {p : Nat → Int32} (hp : ∀ n, n < 10 → pa n = p n) (x : Int32) (post : Int32 → SY → Prop) (H : post (nI (mt_ch p x 10)) (md, sk, og, st, mv, nd, ar, kw, pa, la, dn, oq, ol)) :
    ∀ (d i n : Nat), i + d = 10 → d < n → wY_children_28 post x md sk og st mv nd ar kw pa la dn oq ol n (nI (mt_ch p x i)) (nI i) := by
  intro d
  induction d with
  | zero =>
    intro i n hi hn
    obtain ⟨n, rfl⟩ : ∃ k, n = k + 1 := ⟨n - 1, by omega⟩
    obtain rfl : i = 10 := by omega
    exact br_t (by decide) H
  | succ d ih =>
    intro i n hi hn
    obtain ⟨n, rfl⟩ : ∃ k, n = k + 1 := ⟨n - 1, by omega⟩
    have hi2 : i < 10 := by omega
    have g := ih (i + 1) n (by omega) (by omega)
    refine br_f (nI_ge (b := 10) hi2 (by decide)) ⟨vp_in_nI hi2 (by decide), ?_⟩
    rw [mt_cl (by omega), hp i hi2]
    by_cases z : p i = x
    · rw [mt_ch, if_pos z] at g
      exact br_t z (nm_r (nI_1 _) (nm_r (nI_1 i) g))
    · rw [mt_ch, if_neg z] at g
      exact br_f z (nm_r (nI_1 i) g)
end
-- depth
def mt_dp (p : Nat → Int32) : Nat → Int32 → Nat → Nat
  | 0, _, k => k
  | d + 1, a, k => if a = -1 then k else mt_dp p d (p a.toNatClampNeg) (k + 1)
section
variable {cm : Int32} {iv cn op kn sp sb sm : Nat → Int32} {md sk : Int32} {og st mv nd ar kw pa la dn oq ol : Nat → Int32}
theorem mt_X_dp {r : Nat} (hr : r < 3) {p : Nat → Int32} (hp : ∀ n, n < 10 → sp (r * 10 + n) = p n) (ho : ∀ n, n < 10 → mt_ok (p n)) (post : Int32 → Prop) :
    ∀ (d i n : Nat) (a : Int32), i + d = 10 → d < n → mt_ok a → post (nI (mt_dp p d a i)) → wX_depth_31 post (nI r) cm iv cn op kn sp sb sm n (nI i) a := by
  intro d
  induction d with
  | zero =>
    intro i n a hi hn ha H
    obtain ⟨n, rfl⟩ : ∃ k, n = k + 1 := ⟨n - 1, by omega⟩
    exact br_c (fun _ => H) (fun _ => br_t (nI_le (a := 10) (by omega) (by omega)) H)
  | succ d ih =>
    intro i n a hi hn ha H
    obtain ⟨n, rfl⟩ : ∃ k, n = k + 1 := ⟨n - 1, by omega⟩
    rw [mt_dp] at H
    by_cases z : a = -1
    · rw [if_pos z] at H
      exact br_t z H
    · rw [if_neg z] at H
      refine br_f z (br_f (nI_ge (b := 10) (by omega) (by decide)) ?_)
      rcases ha with ha | ⟨j, hj, rfl⟩
      · exact absurd ha z
      · rw [mt_cl (by omega)] at H
        refine nm_r (nI_1 i) ⟨mt_in10 hr hj, nm_r (by rw [mt_c10 hr hj, hp j hj]) ?_⟩
        exact ih (i + 1) n _ (by omega) (by omega) (ho j hj) H
theorem mt_Y_dp {p : Nat → Int32} (hp : ∀ n, n < 10 → pa n = p n) (ho : ∀ n, n < 10 → mt_ok (p n)) (post : Int32 → SY → Prop) :
    ∀ (d i n j : Nat), i + d = 10 → d < n → j < 10 → post (nI (mt_dp p d (p j) i)) (md, sk, og, st, mv, nd, ar, kw, pa, la, dn, oq, ol) → wY_depth_28 post md sk og st mv nd ar kw pa la dn oq ol n (nI i) (nI j) := by
  intro d
  induction d with
  | zero =>
    intro i n j hi hn hj H
    obtain ⟨n, rfl⟩ : ∃ k, n = k + 1 := ⟨n - 1, by omega⟩
    exact br_t (nI_le (a := 10) (by omega) (by omega)) H
  | succ d ih =>
    intro i n j hi hn hj H
    obtain ⟨n, rfl⟩ : ∃ k, n = k + 1 := ⟨n - 1, by omega⟩
    have i1 : vp_in (nI j) 10 := vp_in_nI hj (by decide)
    rw [mt_dp] at H
    refine br_f (nI_ge (b := 10) (by omega) (by decide)) ⟨i1, ?_⟩
    rw [mt_cl (by omega), hp j hj]
    rcases ho j hj with e | ⟨q, hq, e⟩
    · rw [if_pos e] at H
      rw [e]
      exact br_t (by decide) H
    · rw [e, if_neg (mt_ok_neg hq), mt_cl (by omega)] at H
      rw [e]
      refine br_f (nI_pos (by omega)) ⟨i1, nm_e (nm_r (nI_1 i) ?_)⟩
      exact ih (i + 1) n q (by omega) (by omega) hq H
end
-- alike
def mt_al (T U : mt_T) : Nat → Nat → Int32
  | 0, _ => 1
  | d + 1, i => if T.1 i = U.1 i then (if T.2.1 i = U.2.1 i then mt_al T U d (i + 1) else 0) else 0
section
variable {cm : Int32} {iv cn op kn sp sb sm : Nat → Int32} {md sk : Int32} {og st mv nd ar kw pa la dn oq ol : Nat → Int32}
theorem mt_X_al {a b : Nat} (ha : a < 3) (hb : b < 3) {T U : mt_T} (hT : mt_VX a sp sb sm T) (hU : mt_VX b sp sb sm U) (post : Int32 → Prop) :
    ∀ (d i n : Nat), i + d = 10 → d < n → post (mt_al T U d i) → wX_alike_18 post (nI a) (nI b) cm iv cn op kn sp sb sm n (nI i) := by
  intro d
  induction d with
  | zero =>
    intro i n hi hn H
    obtain ⟨n, rfl⟩ : ∃ k, n = k + 1 := ⟨n - 1, by omega⟩
    exact br_t (nI_le (a := 10) (by omega) (by omega)) H
  | succ d ih =>
    intro i n hi hn H
    obtain ⟨n, rfl⟩ : ∃ k, n = k + 1 := ⟨n - 1, by omega⟩
    have hi2 : i < 10 := by omega
    rw [mt_al] at H
    refine br_f (nI_ge (b := 10) hi2 (by decide)) (nm_e (nm_e ⟨mt_in10 ha hi2, mt_in10 hb hi2, ?_⟩))
    rw [mt_c10 ha hi2, mt_c10 hb hi2, (hT.1 i hi2).1, (hU.1 i hi2).1, (hT.1 i hi2).2, (hU.1 i hi2).2]
    by_cases z : T.1 i = U.1 i
    · rw [if_pos z] at H
      refine br_t z ⟨mt_in10 ha hi2, mt_in10 hb hi2, ?_⟩
      by_cases y : T.2.1 i = U.2.1 i
      · rw [if_pos y] at H
        exact br_t y (nm_r (nI_1 i) (ih (i + 1) n (by omega) (by omega) H))
      · rw [if_neg y] at H
        exact br_f y H
    · rw [if_neg z] at H
      exact br_f z H
theorem mt_Y_al {T U : mt_T} (hT : ∀ n, n < 10 → oq n = T.1 n ∧ ol n = T.2.1 n) (hU : ∀ n, n < 10 → pa n = U.1 n ∧ la n = U.2.1 n) (post : Int32 → SY → Prop) :
    ∀ (d i n : Nat), i + d = 10 → d < n → post (mt_al T U d i) (md, sk, og, st, mv, nd, ar, kw, pa, la, dn, oq, ol) → wY_alike_70 post md sk og st mv nd ar kw pa la dn oq ol n (nI i) := by
  intro d
  induction d with
  | zero =>
    intro i n hi hn H
    obtain ⟨n, rfl⟩ : ∃ k, n = k + 1 := ⟨n - 1, by omega⟩
    exact br_t (nI_le (a := 10) (by omega) (by omega)) H
  | succ d ih =>
    intro i n hi hn H
    obtain ⟨n, rfl⟩ : ∃ k, n = k + 1 := ⟨n - 1, by omega⟩
    have hi2 : i < 10 := by omega
    have i1 : vp_in (nI i) 10 := vp_in_nI hi2 (by decide)
    rw [mt_al] at H
    refine br_f (nI_ge (b := 10) hi2 (by decide)) ⟨i1, i1, ?_⟩
    rw [mt_cl (by omega), (hT i hi2).1, (hU i hi2).1, (hT i hi2).2, (hU i hi2).2]
    by_cases z : T.1 i = U.1 i
    · rw [if_pos z] at H
      refine br_t z ⟨i1, i1, ?_⟩
      by_cases y : T.2.1 i = U.2.1 i
      · rw [if_pos y] at H
        exact br_t y (nm_r (nI_1 i) (ih (i + 1) n (by omega) (by omega) H))
      · rw [if_neg y] at H
        exact br_f y H
    · rw [if_neg z] at H
      exact br_f z H
theorem mt_Y_25 {x2 : Int32} {T : mt_T} (hT : ∀ n, n < 10 → pa n = T.1 n ∧ la n = T.2.1 n) (post : Int32 → SY → Prop)
    (H : ∀ oq ol : Nat → Int32, (∀ n, n < 10 → oq n = T.1 n ∧ ol n = T.2.1 n) → ∀ n : Nat, wY_alike_25 post x2 md sk (n + 1) 10 og st mv nd ar kw pa la dn oq ol) :
    ∀ (d i n : Nat) (oq ol : Nat → Int32), i + d = 10 → d < n → (∀ k, k < i → oq k = T.1 k ∧ ol k = T.2.1 k) → wY_alike_25 post x2 md sk n (nI i) og st mv nd ar kw pa la dn oq ol := by
  intro d
  induction d with
  | zero =>
    intro i n oq ol hi hn hz
    obtain ⟨n, rfl⟩ : ∃ k, n = k + 1 := ⟨n - 1, by omega⟩
    obtain rfl : i = 10 := by omega
    exact H oq ol hz n
  | succ d ih =>
    intro i n oq ol hi hn hz
    obtain ⟨n, rfl⟩ : ∃ k, n = k + 1 := ⟨n - 1, by omega⟩
    have hi2 : i < 10 := by omega
    have i1 : vp_in (nI i) 10 := vp_in_nI hi2 (by decide)
    refine br_f (nI_ge (b := 10) hi2 (by decide)) ⟨i1, i1, nm_r (by rw [mt_cl (by omega)]) ⟨i1, i1, nm_r (by rw [mt_cl (by omega)]) (nm_r (nI_1 i) ?_)⟩⟩
    refine ih (i + 1) n _ _ (by omega) (by omega) (fun k hk => ?_)
    by_cases e : k = i
    · rw [e, pk_us, pk_us]; exact hT i hi2
    · rw [pk_un e, pk_un e]; exact hz k (by omega)
end
