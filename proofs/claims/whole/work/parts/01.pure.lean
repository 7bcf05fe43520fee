-- rows of kit/rows (pk_*), as given for pasting
theorem pk_us {f : Nat → Int32} {k : Nat} {x : Int32} : upd f k x k = x := if_pos rfl
theorem pk_un {f : Nat → Int32} {k j : Nat} {x : Int32} (h : j ≠ k) : upd f k x j = f j := if_neg h
theorem pk_m1 (n : Nat) : nI (n + 1) + (-1) = nI n := by
  rw [← nI_1, Int32.add_assoc, show (1 : Int32) + (-1) = 0 from rfl, Int32.add_zero]
theorem pk_mul (a b : Nat) : nI a * nI b = nI (a * b) := (Int32.ofNat_mul a b).symm
theorem pk_div {a d : Nat} (ha : a < 2 ^ 31) (h0 : 0 < d) (hd : d < 2 ^ 31) : nI a / nI d = nI (a / d) := by
  apply Int32.toInt_inj.mp
  rw [lg_idiv_nonneg (by rw [nI_toInt ha]; omega) (by rw [nI_toInt hd]; omega), nI_toInt ha, nI_toInt hd, nI_toInt (Nat.lt_of_le_of_lt (Nat.div_le_self a d) ha)]
  first | rfl | exact (Int.natCast_ediv _ _).symm
theorem pk_ix (x : Int32) {n : Nat} (hn : n < 2 ^ 31) : x < 0 ∨ nI n ≤ x ∨ ∃ j : Nat, j < n ∧ x = nI j := by
  by_cases h : x < 0
  · exact Or.inl h
  · obtain ⟨j, hj, rfl⟩ := nI_of h
    by_cases h2 : j < n
    · exact Or.inr (Or.inr ⟨j, h2, rfl⟩)
    · exact Or.inr (Or.inl (nI_le (by omega) hj))
theorem pk_le {x y : Int32} {A B : Prop} (a b : Nat) (f : a ≤ b → A) (g : b < a → B) (hx : x = nI a := by rfl) (hy : y = nI b := by rfl) (ha : a < 2 ^ 31 := by omega) (hb : b < 2 ^ 31 := by omega) : (x ≤ y → A) ∧ (¬ x ≤ y → B) := by
  subst hx hy
  rw [nI_leI ha hb]
  exact ⟨f, fun z => g (by omega)⟩
theorem pk_lt {x y : Int32} {A B : Prop} (a b : Nat) (f : a < b → A) (g : b ≤ a → B) (hx : x = nI a := by rfl) (hy : y = nI b := by rfl) (ha : a < 2 ^ 31 := by omega) (hb : b < 2 ^ 31 := by omega) : (x < y → A) ∧ (¬ x < y → B) := by
  subst hx hy
  rw [nI_ltI ha hb]
  exact ⟨f, fun z => g (by omega)⟩
theorem pk_eq {x y : Int32} {A B : Prop} (a b : Nat) (f : a = b → A) (g : a ≠ b → B) (hx : x = nI a := by rfl) (hy : y = nI b := by rfl) (ha : a < 2 ^ 31 := by omega) (hb : b < 2 ^ 31 := by omega) : (x = y → A) ∧ (¬ x = y → B) := by
  subst hx hy
  rw [nI_eq ha hb]
  exact ⟨f, g⟩
theorem pk_in {x : Int32} (n N : Nat) (h : n < N) (hx : x = nI n := by rfl) (hN : N < 2 ^ 31 := by omega) : vp_in x N := by
  subst hx
  exact vp_in_nI h hN
theorem pk_cl {x : Int32} (n : Nat) (hx : x = nI n := by rfl) (h : n < 2 ^ 31 := by omega) : x.toNatClampNeg = n := by
  subst hx
  exact nI_clamp h
-- indices
theorem mt_10 (r j : Nat) : nI r * 10 + nI j = nI (r * 10 + j) := by
  rw [show (10 : Int32) = nI 10 from rfl, pk_mul, nI_add]
theorem mt_180 (r j : Nat) : nI r * 180 + nI j = nI (r * 180 + j) := by
  rw [show (180 : Int32) = nI 180 from rfl, pk_mul, nI_add]
theorem mt_60 (r j : Nat) : 60 * nI r + nI j = nI (r * 60 + j) := by
  rw [show (60 : Int32) = nI 60 from rfl, pk_mul, nI_add, Nat.mul_comm 60 r]
theorem mt_in10 {r j : Nat} (hr : r < 3) (hj : j < 10) : vp_in (nI r * 10 + nI j) 30 := by
  rw [mt_10]; exact vp_in_nI (by omega) (by decide)
theorem mt_in180 {r j : Nat} (hr : r < 3) (hj : j < 180) : vp_in (nI r * 180 + nI j) 540 := by
  rw [mt_180]; exact vp_in_nI (by omega) (by decide)
theorem mt_in60 {r j : Nat} (hr : r < 3) (hj : j < 60) : vp_in (60 * nI r + nI j) 180 := by
  rw [mt_60]; exact vp_in_nI (by omega) (by decide)
theorem mt_c10 {r j : Nat} (hr : r < 3) (hj : j < 10) : (nI r * 10 + nI j).toNatClampNeg = r * 10 + j := by
  rw [mt_10]; exact nI_clamp (by omega)
theorem mt_c180 {r j : Nat} (hr : r < 3) (hj : j < 180) : (nI r * 180 + nI j).toNatClampNeg = r * 180 + j := by
  rw [mt_180]; exact nI_clamp (by omega)
theorem mt_c60 {r j : Nat} (hr : r < 3) (hj : j < 60) : (60 * nI r + nI j).toNatClampNeg = r * 60 + j := by
  rw [mt_60]; exact nI_clamp (by omega)
theorem mt_cl {j : Nat} (hj : j < 1000) : (nI j).toNatClampNeg = j := nI_clamp (by omega)
theorem mt_b1 : vp_nar .boolean 1 = 1 := by decide
theorem mt_b0 : vp_nar .boolean 0 = 0 := by decide
theorem mt_nb {x : Int32} (h : x = 0 ∨ x = 1) : narrow .boolean (.int x) = .int x := by
  rcases h with rfl | rfl <;> decide
-- a parent as it may stand
def mt_ok (x : Int32) : Prop := x = -1 ∨ ∃ j : Nat, j < 10 ∧ x = nI j
theorem mt_ok_neg {j : Nat} (hj : j < 10) : ¬ nI j = -1 := by
  intro h
  have h1 := congrArg Int32.toInt h
  rw [nI_toInt (by omega)] at h1
  have h2 : (-1 : Int32).toInt = -1 := by decide
  omega
-- is nd at a, or above it within n steps
def mt_ab (p : Nat → Int32) (nd : Int32) : Nat → Int32 → Int32
  | 0, _ => 0
  | n + 1, a => if a = -1 then 0 else if a = nd then 1 else mt_ab p nd n (p a.toNatClampNeg)
theorem mt_ab01 (p : Nat → Int32) (nd : Int32) : ∀ (n : Nat) (a : Int32), mt_ab p nd n a = 0 ∨ mt_ab p nd n a = 1 := by
  intro n
  induction n with
  | zero => intro a; exact Or.inl rfl
  | succ n ih =>
    intro a
    rw [mt_ab]
    by_cases h : a = -1
    · rw [if_pos h]; exact Or.inl rfl
    · rw [if_neg h]
      by_cases h2 : a = nd
      · rw [if_pos h2]; exact Or.inr rfl
      · rw [if_neg h2]; exact ih _
-- what a replica shows: parents, labels, skipped moves
abbrev mt_T : Type := (Nat → Int32) × (Nat → Int32) × Int32
def mt_ap (mv nd ar : Int32) (t : mt_T) : mt_T :=
  if mv = 0 then (t.1, upd t.2.1 nd.toNatClampNeg ar, t.2.2)
  else if mt_ab t.1 nd 10 ar = 0 then (upd t.1 nd.toNatClampNeg ar, t.2.1, t.2.2)
  else (t.1, t.2.1, t.2.2 + 1)
def mt_an (mv nd ar : Int32) (t : mt_T) : Int32 := if mv = 0 then 0 else mt_ab t.1 nd 10 ar
def mt_t0 : mt_T := (fun _ => -1, fun _ => 0, 0)
def mt_rp (iv cn op kn : Nat → Int32) (r : Nat) : Nat → mt_T
  | 0 => mt_t0
  | s + 1 => if kn (r * 180 + s) = 0 then mt_rp iv cn op kn r s else mt_ap (iv s) (cn s) (op s) (mt_rp iv cn op kn r s)
theorem mt_rp_n {iv cn op kn : Nat → Int32} {r s : Nat} (h : kn (r * 180 + s) = 0) : mt_rp iv cn op kn r (s + 1) = mt_rp iv cn op kn r s := by
  rw [mt_rp, if_pos h]
theorem mt_rp_y {iv cn op kn : Nat → Int32} {r s : Nat} (h : ¬ kn (r * 180 + s) = 0) : mt_rp iv cn op kn r (s + 1) = mt_ap (iv s) (cn s) (op s) (mt_rp iv cn op kn r s) := by
  rw [mt_rp, if_neg h]
theorem mt_rp_gap {iv cn op kn : Nat → Int32} {r S : Nat} : ∀ d : Nat, (∀ s, S ≤ s → s < S + d → kn (r * 180 + s) = 0) → mt_rp iv cn op kn r (S + d) = mt_rp iv cn op kn r S := by
  intro d
  induction d with
  | zero => intro _; rfl
  | succ d ih =>
    intro h
    rw [← Nat.add_assoc, mt_rp_n (h _ (by omega) (by omega))]
    exact ih (fun s h1 h2 => h s h1 (by omega))
theorem mt_rp_gap' {iv cn op kn : Nat → Int32} {r S S' : Nat} (hS : S ≤ S') (h : ∀ s, S ≤ s → s < S' → kn (r * 180 + s) = 0) : mt_rp iv cn op kn r S' = mt_rp iv cn op kn r S := by
  obtain ⟨d, rfl⟩ : ∃ d, S' = S + d := ⟨S' - S, by omega⟩
  exact mt_rp_gap d h
theorem mt_rp_cong {iv cn op kn iv' cn' op' kn' : Nat → Int32} {r : Nat} : ∀ S : Nat, (∀ s, s < S → (kn (r * 180 + s) = 0 ↔ kn' (r * 180 + s) = 0)) → (∀ s, s < S → ¬ kn (r * 180 + s) = 0 → iv s = iv' s ∧ cn s = cn' s ∧ op s = op' s) → mt_rp iv cn op kn r S = mt_rp iv' cn' op' kn' r S := by
  intro S
  induction S with
  | zero => intro _ _; rfl
  | succ S ih =>
    intro h1 h2
    have e := ih (fun s hs => h1 s (by omega)) (fun s hs => h2 s (by omega))
    have k := h1 S (by omega)
    by_cases z : kn (r * 180 + S) = 0
    · rw [mt_rp_n z, mt_rp_n (k.mp z), e]
    · obtain ⟨a, b, c⟩ := h2 S (by omega) z
      rw [mt_rp_y z, mt_rp_y (fun y => z (k.mpr y)), e, a, b, c]
-- a change as it may stand
def mt_v (mv nd ar : Int32) : Prop := (∃ j : Nat, j < 10 ∧ nd = nI j) ∧ (¬ mv = 0 → ∃ j : Nat, j < 10 ∧ ar = nI j)
theorem mt_ap_ok {mv nd ar : Int32} {t : mt_T} (hv : mt_v mv nd ar) (h : ∀ n, n < 10 → mt_ok (t.1 n)) : ∀ n, n < 10 → mt_ok ((mt_ap mv nd ar t).1 n) := by
  intro n hn
  unfold mt_ap
  by_cases z : mv = 0
  · rw [if_pos z]; exact h n hn
  · rw [if_neg z]
    by_cases y : mt_ab t.1 nd 10 ar = 0
    · rw [if_pos y]
      show mt_ok (upd t.1 nd.toNatClampNeg ar n)
      by_cases e : n = nd.toNatClampNeg
      · rw [e, pk_us]; exact Or.inr (hv.2 z)
      · rw [pk_un e]; exact h n hn
    · rw [if_neg y]; exact h n hn
theorem mt_rp_ok {iv cn op kn : Nat → Int32} {r : Nat} : ∀ S : Nat, (∀ s, s < S → ¬ kn (r * 180 + s) = 0 → mt_v (iv s) (cn s) (op s)) → ∀ n, n < 10 → mt_ok ((mt_rp iv cn op kn r S).1 n) := by
  intro S
  induction S with
  | zero => intro _ n _; exact Or.inl rfl
  | succ S ih =>
    intro h
    have e := ih (fun s hs => h s (by omega))
    by_cases z : kn (r * 180 + S) = 0
    · rw [mt_rp_n z]; exact e
    · rw [mt_rp_y z]; exact mt_ap_ok (h S (by omega) z) e
