section
-- rows of kit/rows (pk_*), as given for pasting
theorem pk_us {f : Nat → Int32} {k : Nat} {x : Int32} : upd f k x k = x := if_pos rfl
theorem pk_un {f : Nat → Int32} {k j : Nat} {x : Int32} (h : j ≠ k) : upd f k x j = f j := if_neg h
theorem pk_m1 (n : Nat) : nI (n + 1) + (-1) = nI n := by
  rw [← nI_1, Int32.add_assoc, show (1 : Int32) + (-1) = 0 from rfl, Int32.add_zero]
theorem pk_mul (a b : Nat) : nI a * nI b = nI (a * b) := (Int32.ofNat_mul a b).symm
theorem pk_div {a d : Nat} (ha : a < 2 ^ 31) (h0 : 0 < d) (hd : d < 2 ^ 31) : nI a / nI d = nI (a / d) := by
  apply Int32.toInt_inj.mp
  rw [lg_idiv_nonneg (by rw [nI_toInt ha]; omega) (by rw [nI_toInt hd]; omega), nI_toInt ha, nI_toInt hd, nI_toInt (Nat.lt_of_le_of_lt (Nat.div_le_self a d) ha)]
  first | rfl | exact (Int.natCast_ediv _ _).symm
theorem pk_ix (x : Int32) {n : Nat} (hn : n < 2 ^ 31) : x < 0 ∨ nI n ≤ x ∨ ∃ j : Nat, j < n ∧ x = nI j := by
  by_cases h : x < 0
  · exact Or.inl h
  · obtain ⟨j, hj, rfl⟩ := nI_of h
    by_cases h2 : j < n
    · exact Or.inr (Or.inr ⟨j, h2, rfl⟩)
    · exact Or.inr (Or.inl (nI_le (by omega) hj))
theorem pk_le {x y : Int32} {A B : Prop} (a b : Nat) (f : a ≤ b → A) (g : b < a → B) (hx : x = nI a := by rfl) (hy : y = nI b := by rfl) (ha : a < 2 ^ 31 := by omega) (hb : b < 2 ^ 31 := by omega) : (x ≤ y → A) ∧ (¬ x ≤ y → B) := by
  subst hx hy
  rw [nI_leI ha hb]
  exact ⟨f, fun z => g (by omega)⟩
theorem pk_lt {x y : Int32} {A B : Prop} (a b : Nat) (f : a < b → A) (g : b ≤ a → B) (hx : x = nI a := by rfl) (hy : y = nI b := by rfl) (ha : a < 2 ^ 31 := by omega) (hb : b < 2 ^ 31 := by omega) : (x < y → A) ∧ (¬ x < y → B) := by
  subst hx hy
  rw [nI_ltI ha hb]
  exact ⟨f, fun z => g (by omega)⟩
theorem pk_eq {x y : Int32} {A B : Prop} (a b : Nat) (f : a = b → A) (g : a ≠ b → B) (hx : x = nI a := by rfl) (hy : y = nI b := by rfl) (ha : a < 2 ^ 31 := by omega) (hb : b < 2 ^ 31 := by omega) : (x = y → A) ∧ (¬ x = y → B) := by
  subst hx hy
  rw [nI_eq ha hb]
  exact ⟨f, g⟩
theorem pk_in {x : Int32} (n N : Nat) (h : n < N) (hx : x = nI n := by rfl) (hN : N < 2 ^ 31 := by omega) : vp_in x N := by
  subst hx
  exact vp_in_nI h hN
theorem pk_cl {x : Int32} (n : Nat) (hx : x = nI n := by rfl) (h : n < 2 ^ 31 := by omega) : x.toNatClampNeg = n := by
  subst hx
  exact nI_clamp h
-- indices
theorem mt_10 (r j : Nat) : nI r * 10 + nI j = nI (r * 10 + j) := by
  rw [show (10 : Int32) = nI 10 from rfl, pk_mul, nI_add]
theorem mt_180 (r j : Nat) : nI r * 180 + nI j = nI (r * 180 + j) := by
  rw [show (180 : Int32) = nI 180 from rfl, pk_mul, nI_add]
theorem mt_60 (r j : Nat) : 60 * nI r + nI j = nI (r * 60 + j) := by
  rw [show (60 : Int32) = nI 60 from rfl, pk_mul, nI_add, Nat.mul_comm 60 r]
theorem mt_in10 {r j : Nat} (hr : r < 3) (hj : j < 10) : vp_in (nI r * 10 + nI j) 30 := by
  rw [mt_10]; exact vp_in_nI (by omega) (by decide)
theorem mt_in180 {r j : Nat} (hr : r < 3) (hj : j < 180) : vp_in (nI r * 180 + nI j) 540 := by
  rw [mt_180]; exact vp_in_nI (by omega) (by decide)
theorem mt_in60 {r j : Nat} (hr : r < 3) (hj : j < 60) : vp_in (60 * nI r + nI j) 180 := by
  rw [mt_60]; exact vp_in_nI (by omega) (by decide)
theorem mt_c10 {r j : Nat} (hr : r < 3) (hj : j < 10) : (nI r * 10 + nI j).toNatClampNeg = r * 10 + j := by
  rw [mt_10]; exact nI_clamp (by omega)
theorem mt_c180 {r j : Nat} (hr : r < 3) (hj : j < 180) : (nI r * 180 + nI j).toNatClampNeg = r * 180 + j := by
  rw [mt_180]; exact nI_clamp (by omega)
theorem mt_c60 {r j : Nat} (hr : r < 3) (hj : j < 60) : (60 * nI r + nI j).toNatClampNeg = r * 60 + j := by
  rw [mt_60]; exact nI_clamp (by omega)
theorem mt_cl {j : Nat} (hj : j < 1000) : (nI j).toNatClampNeg = j := nI_clamp (by omega)
theorem mt_b1 : vp_nar .boolean 1 = 1 := by decide
theorem mt_b0 : vp_nar .boolean 0 = 0 := by decide
theorem mt_nb {x : Int32} (h : x = 0 ∨ x = 1) : narrow .boolean (.int x) = .int x := by
  rcases h with rfl | rfl <;> decide
-- a parent as it may stand
def mt_ok (x : Int32) : Prop := x = -1 ∨ ∃ j : Nat, j < 10 ∧ x = nI j
theorem mt_ok_neg {j : Nat} (hj : j < 10) : ¬ nI j = -1 := by
  intro h
  have h1 := congrArg Int32.toInt h
  rw [nI_toInt (by omega)] at h1
  have h2 : (-1 : Int32).toInt = -1 := by decide
  omega
-- is nd at a, or above it within n steps
def mt_ab (p : Nat → Int32) (nd : Int32) : Nat → Int32 → Int32
  | 0, _ => 0
  | n + 1, a => if a = -1 then 0 else if a = nd then 1 else mt_ab p nd n (p a.toNatClampNeg)
theorem mt_ab01 (p : Nat → Int32) (nd : Int32) : ∀ (n : Nat) (a : Int32), mt_ab p nd n a = 0 ∨ mt_ab p nd n a = 1 := by
  intro n
  induction n with
  | zero => intro a; exact Or.inl rfl
  | succ n ih =>
    intro a
    rw [mt_ab]
    by_cases h : a = -1
    · rw [if_pos h]; exact Or.inl rfl
    · rw [if_neg h]
      by_cases h2 : a = nd
      · rw [if_pos h2]; exact Or.inr rfl
      · rw [if_neg h2]; exact ih _
-- what a replica shows: parents, labels, skipped moves
abbrev mt_T : Type := (Nat → Int32) × (Nat → Int32) × Int32
def mt_ap (mv nd ar : Int32) (t : mt_T) : mt_T :=
  if mv = 0 then (t.1, upd t.2.1 nd.toNatClampNeg ar, t.2.2)
  else if mt_ab t.1 nd 10 ar = 0 then (upd t.1 nd.toNatClampNeg ar, t.2.1, t.2.2)
  else (t.1, t.2.1, t.2.2 + 1)
def mt_an (mv nd ar : Int32) (t : mt_T) : Int32 := if mv = 0 then 0 else mt_ab t.1 nd 10 ar
def mt_t0 : mt_T := (fun _ => -1, fun _ => 0, 0)
def mt_rp (iv cn op kn : Nat → Int32) (r : Nat) : Nat → mt_T
  | 0 => mt_t0
  | s + 1 => if kn (r * 180 + s) = 0 then mt_rp iv cn op kn r s else mt_ap (iv s) (cn s) (op s) (mt_rp iv cn op kn r s)
theorem mt_rp_n {iv cn op kn : Nat → Int32} {r s : Nat} (h : kn (r * 180 + s) = 0) : mt_rp iv cn op kn r (s + 1) = mt_rp iv cn op kn r s := by
  rw [mt_rp, if_pos h]
theorem mt_rp_y {iv cn op kn : Nat → Int32} {r s : Nat} (h : ¬ kn (r * 180 + s) = 0) : mt_rp iv cn op kn r (s + 1) = mt_ap (iv s) (cn s) (op s) (mt_rp iv cn op kn r s) := by
  rw [mt_rp, if_neg h]
theorem mt_rp_gap {iv cn op kn : Nat → Int32} {r S : Nat} : ∀ d : Nat, (∀ s, S ≤ s → s < S + d → kn (r * 180 + s) = 0) → mt_rp iv cn op kn r (S + d) = mt_rp iv cn op kn r S := by
  intro d
  induction d with
  | zero => intro _; rfl
  | succ d ih =>
    intro h
    rw [← Nat.add_assoc, mt_rp_n (h _ (by omega) (by omega))]
    exact ih (fun s h1 h2 => h s h1 (by omega))
theorem mt_rp_gap' {iv cn op kn : Nat → Int32} {r S S' : Nat} (hS : S ≤ S') (h : ∀ s, S ≤ s → s < S' → kn (r * 180 + s) = 0) : mt_rp iv cn op kn r S' = mt_rp iv cn op kn r S := by
  obtain ⟨d, rfl⟩ : ∃ d, S' = S + d := ⟨S' - S, by omega⟩
  exact mt_rp_gap d h
theorem mt_rp_cong {iv cn op kn iv' cn' op' kn' : Nat → Int32} {r : Nat} : ∀ S : Nat, (∀ s, s < S → (kn (r * 180 + s) = 0 ↔ kn' (r * 180 + s) = 0)) → (∀ s, s < S → ¬ kn (r * 180 + s) = 0 → iv s = iv' s ∧ cn s = cn' s ∧ op s = op' s) → mt_rp iv cn op kn r S = mt_rp iv' cn' op' kn' r S := by
  intro S
  induction S with
  | zero => intro _ _; rfl
  | succ S ih =>
    intro h1 h2
    have e := ih (fun s hs => h1 s (by omega)) (fun s hs => h2 s (by omega))
    have k := h1 S (by omega)
    by_cases z : kn (r * 180 + S) = 0
    · rw [mt_rp_n z, mt_rp_n (k.mp z), e]
    · obtain ⟨a, b, c⟩ := h2 S (by omega) z
      rw [mt_rp_y z, mt_rp_y (fun y => z (k.mpr y)), e, a, b, c]
-- a change as it may stand
def mt_v (mv nd ar : Int32) : Prop := (∃ j : Nat, j < 10 ∧ nd = nI j) ∧ (¬ mv = 0 → ∃ j : Nat, j < 10 ∧ ar = nI j)
theorem mt_ap_ok {mv nd ar : Int32} {t : mt_T} (hv : mt_v mv nd ar) (h : ∀ n, n < 10 → mt_ok (t.1 n)) : ∀ n, n < 10 → mt_ok ((mt_ap mv nd ar t).1 n) := by
  intro n hn
  unfold mt_ap
  by_cases z : mv = 0
  · rw [if_pos z]; exact h n hn
  · rw [if_neg z]
    by_cases y : mt_ab t.1 nd 10 ar = 0
    · rw [if_pos y]
      show mt_ok (upd t.1 nd.toNatClampNeg ar n)
      by_cases e : n = nd.toNatClampNeg
      · rw [e, pk_us]; exact Or.inr (hv.2 z)
      · rw [pk_un e]; exact h n hn
    · rw [if_neg y]; exact h n hn
theorem mt_rp_ok {iv cn op kn : Nat → Int32} {r : Nat} : ∀ S : Nat, (∀ s, s < S → ¬ kn (r * 180 + s) = 0 → mt_v (iv s) (cn s) (op s)) → ∀ n, n < 10 → mt_ok ((mt_rp iv cn op kn r S).1 n) := by
  intro S
  induction S with
  | zero => intro _ n _; exact Or.inl rfl
  | succ S ih =>
    intro h
    have e := ih (fun s hs => h s (by omega))
    by_cases z : kn (r * 180 + S) = 0
    · rw [mt_rp_n z]; exact e
    · rw [mt_rp_y z]; exact mt_ap_ok (h S (by omega) z) e
end
section
-- counting
def mt_ct (f : Nat → Int32) : Nat → Nat
  | 0 => 0
  | n + 1 => mt_ct f n + (if f n = 0 then 0 else 1)
theorem mt_ct_le (f : Nat → Int32) : ∀ n : Nat, mt_ct f n ≤ n := by
  intro n
  induction n with
  | zero => exact Nat.le_refl 0
  | succ n ih =>
    rw [mt_ct]
    by_cases z : f n = 0
    · rw [if_pos z]; omega
    · rw [if_neg z]; omega
theorem mt_ct_all (f : Nat → Int32) : ∀ n : Nat, n ≤ mt_ct f n → ∀ c, c < n → ¬ f c = 0 := by
  intro n
  induction n with
  | zero => intro _ c hc; omega
  | succ n ih =>
    intro h c hc
    rw [mt_ct] at h
    have l := mt_ct_le f n
    by_cases z : f n = 0
    · rw [if_pos z] at h; omega
    · rw [if_neg z] at h
      by_cases e : c = n
      · rw [e]; exact z
      · exact ih (by omega) c (by omega)
theorem mt_ct_cong (f g : Nat → Int32) : ∀ n : Nat, (∀ c, c < n → (f c = 0 ↔ g c = 0)) → mt_ct f n = mt_ct g n := by
  intro n
  induction n with
  | zero => intro _; rfl
  | succ n ih =>
    intro h
    rw [mt_ct, mt_ct, ih (fun c hc => h c (by omega))]
    have k := h n (by omega)
    by_cases z : f n = 0
    · rw [if_pos z, if_pos (k.mp z)]
    · rw [if_neg z, if_neg (fun y => z (k.mpr y))]
theorem mt_ct_upd (f : Nat → Int32) (c : Nat) (x : Int32) (hz : f c = 0) (hx : ¬ x = 0) : ∀ n : Nat, c < n → mt_ct (upd f c x) n = mt_ct f n + 1 := by
  intro n
  induction n with
  | zero => intro h; omega
  | succ n ih =>
    intro h
    rw [mt_ct, mt_ct]
    by_cases e : c = n
    · subst e
      rw [pk_us, if_neg hx, if_pos hz, mt_ct_cong (upd f c x) f c (fun d hd => by rw [pk_un (by omega)])]
    · rw [pk_un (fun q => e q.symm), ih (by omega)]
      omega
theorem mt_ct_0 (f : Nat → Int32) : ∀ n : Nat, (∀ c, c < n → f c = 0) → mt_ct f n = 0 := by
  intro n
  induction n with
  | zero => intro _; rfl
  | succ n ih =>
    intro h
    rw [mt_ct, ih (fun c hc => h c (by omega)), if_pos (h n (by omega))]
theorem mt_ct_bij (g : Nat → Int32) (sl : Nat → Nat) (N : Nat) : ∀ (m : Nat) (f : Nat → Int32), (∀ c, c < m → sl c < N) → (∀ c d, c < m → d < m → sl c = sl d → c = d) → (∀ s, s < N → (¬ f s = 0 ↔ ∃ c, c < m ∧ sl c = s ∧ ¬ g c = 0)) → mt_ct f N = mt_ct g m := by
  intro m
  induction m with
  | zero =>
    intro f _ _ h
    refine mt_ct_0 f N (fun s hs => ?_)
    by_cases z : f s = 0
    · exact z
    · obtain ⟨c, hc, _⟩ := (h s hs).mp z
      omega
  | succ m ih =>
    intro f hN hi h
    rw [mt_ct]
    by_cases z : g m = 0
    · rw [if_pos z]
      refine ih f (fun c hc => hN c (by omega)) (fun c d hc hd => hi c d (by omega) (by omega)) (fun s hs => ?_)
      rw [h s hs]
      refine ⟨fun ⟨c, hc, e, y⟩ => ⟨c, ?_, e, y⟩, fun ⟨c, hc, e, y⟩ => ⟨c, by omega, e, y⟩⟩
      by_cases q : c = m
      · rw [q] at y; exact absurd z y
      · omega
    · rw [if_neg z]
      have hf : ¬ f (sl m) = 0 := (h (sl m) (hN m (by omega))).mpr ⟨m, by omega, rfl, z⟩
      have e1 : mt_ct (upd f (sl m) 0) N = mt_ct g m := by
        refine ih _ (fun c hc => hN c (by omega)) (fun c d hc hd => hi c d (by omega) (by omega)) (fun s hs => ?_)
        by_cases q : s = sl m
        · rw [q, pk_us]
          refine ⟨fun y => absurd rfl y, fun ⟨c, hc, e, _⟩ => ?_⟩
          have := hi c m (by omega) (by omega) e
          omega
        · rw [pk_un q, h s hs]
          refine ⟨fun ⟨c, hc, e, y⟩ => ⟨c, ?_, e, y⟩, fun ⟨c, hc, e, y⟩ => ⟨c, by omega, e, y⟩⟩
          by_cases q2 : c = m
          · rw [q2] at e; exact absurd e.symm q
          · omega
      have e2 := mt_ct_upd (upd f (sl m) 0) (sl m) 1 pk_us (by decide) N (hN m (by omega))
      have e3 : mt_ct f N = mt_ct (upd (upd f (sl m) 0) (sl m) 1) N := by
        refine mt_ct_cong _ _ N (fun s hs => ?_)
        by_cases q : s = sl m
        · rw [q, pk_us]
          exact ⟨fun y => absurd y hf, fun y => absurd y (by decide)⟩
        · rw [pk_un q, pk_un q]
      omega
-- the walk of a sync, on either side
def mt_sy (A B : Nat) (a : Nat → Int32) : Nat → (Nat → Int32) × Nat
  | 0 => (a, 0)
  | i + 1 => if (mt_sy A B a i).1 (A + i) = 0 then mt_sy A B a i else if (mt_sy A B a i).1 (B + i) = 0 then (upd (mt_sy A B a i).1 (B + i) 1, (mt_sy A B a i).2 + 1) else mt_sy A B a i
def mt_mi (A B : Nat) (a : Nat → Int32) (s : Nat) : Int32 := if a (A + s) = 0 then 0 else if a (B + s) = 0 then 1 else 0
theorem mt_sy_spec {A B w : Nat} {a : Nat → Int32} (hw : A = B ∨ A + w ≤ B ∨ B + w ≤ A) : ∀ i : Nat, i ≤ w → (∀ j, (∀ s, s < i → j ≠ B + s) → (mt_sy A B a i).1 j = a j) ∧ (∀ s, s < i → ((mt_sy A B a i).1 (B + s) = 0 ↔ a (B + s) = 0 ∧ a (A + s) = 0)) ∧ (mt_sy A B a i).2 = mt_ct (mt_mi A B a) i := by
  intro i
  induction i with
  | zero => intro _; exact ⟨fun j _ => rfl, fun s hs => by omega, rfl⟩
  | succ i ih =>
    intro hi
    obtain ⟨h1, h2, h3⟩ := ih (by omega)
    have eA : (mt_sy A B a i).1 (A + i) = a (A + i) := h1 _ (fun s hs => by omega)
    have eB : (mt_sy A B a i).1 (B + i) = a (B + i) := h1 _ (fun s hs => by omega)
    by_cases z : a (A + i) = 0
    · have e : mt_sy A B a (i + 1) = mt_sy A B a i := by rw [mt_sy, eA, if_pos z]
      have e2 : mt_mi A B a i = 0 := by rw [mt_mi, if_pos z]
      rw [e]
      refine ⟨fun j hj => h1 j (fun s hs => hj s (by omega)), fun s hs => ?_, ?_⟩
      · by_cases q : s = i
        · rw [q, eB]; exact ⟨fun y => ⟨y, z⟩, fun y => y.1⟩
        · exact h2 s (by omega)
      · rw [h3, mt_ct, if_pos e2]; rfl
    · by_cases y : a (B + i) = 0
      · have e : mt_sy A B a (i + 1) = (upd (mt_sy A B a i).1 (B + i) 1, (mt_sy A B a i).2 + 1) := by rw [mt_sy, eA, if_neg z, eB, if_pos y]
        have e2 : mt_mi A B a i = 1 := by rw [mt_mi, if_neg z, if_pos y]
        rw [e]
        refine ⟨fun j hj => ?_, fun s hs => ?_, ?_⟩
        · show upd (mt_sy A B a i).1 (B + i) 1 j = a j
          rw [pk_un (hj i (by omega))]
          exact h1 j (fun s hs => hj s (by omega))
        · show upd (mt_sy A B a i).1 (B + i) 1 (B + s) = 0 ↔ _
          by_cases q : s = i
          · rw [q, pk_us]; exact ⟨fun x => absurd x (by decide), fun x => absurd x.2 z⟩
          · rw [pk_un (by omega)]; exact h2 s (by omega)
        · show (mt_sy A B a i).2 + 1 = _
          rw [h3, mt_ct, e2, if_neg (by decide)]
      · have e : mt_sy A B a (i + 1) = mt_sy A B a i := by rw [mt_sy, eA, if_neg z, eB, if_neg y]
        have e2 : mt_mi A B a i = 0 := by rw [mt_mi, if_neg z, if_neg y]
        rw [e]
        refine ⟨fun j hj => h1 j (fun s hs => hj s (by omega)), fun s hs => ?_, ?_⟩
        · by_cases q : s = i
          · rw [q, eB]; exact ⟨fun x => absurd x y, fun x => absurd x.1 y⟩
          · exact h2 s (by omega)
        · rw [h3, mt_ct, if_pos e2]; rfl
-- the changes on both sides: change c has slot sl c
def mt_core (m : Nat) (sl : Nat → Nat) (iv cn op kn og st mv nd ar kw : Nat → Int32) : Prop :=
  m ≤ 60 ∧ (∀ c, c < m → og c = nI (sl c % 3) ∧ st c = nI (sl c / 3 + 1) ∧ sl c < 3 * m)
  ∧ (∀ c, c < m → iv (sl c) = mv c ∧ cn (sl c) = nd c ∧ op (sl c) = ar c ∧ mt_v (mv c) (nd c) (ar c))
  ∧ (∀ c, c < m → ¬ kw ((sl c % 3) * 60 + c) = 0)
  ∧ (∀ c d, c < d → d < m → sl c % 3 = sl d % 3 → sl c < sl d)
  ∧ (∀ r s, r < 3 → s < 180 → (¬ kn (r * 180 + s) = 0 ↔ ∃ c, c < m ∧ sl c = s ∧ ¬ kw (r * 60 + c) = 0))
  ∧ (∀ r c, r < 3 → m ≤ c → c < 60 → kw (r * 60 + c) = 0)
section
variable {m : Nat} {sl : Nat → Nat} {iv cn op kn og st mv nd ar kw : Nat → Int32}
theorem mt_core_inj (h : mt_core m sl iv cn op kn og st mv nd ar kw) {c d : Nat} (hc : c < m) (hd : d < m) (e : sl c = sl d) : c = d := by
  obtain ⟨_, _, _, _, h5, _, _⟩ := h
  by_cases l : c < d
  · have := h5 c d l hd (by rw [e]); omega
  · by_cases l2 : d < c
    · have := h5 d c l2 hc (by rw [e]); omega
    · omega
theorem mt_core_v (h : mt_core m sl iv cn op kn og st mv nd ar kw) {r s : Nat} (hr : r < 3) (hs : s < 180) (z : ¬ kn (r * 180 + s) = 0) : mt_v (iv s) (cn s) (op s) := by
  obtain ⟨_, _, h3, _, _, h6, _⟩ := h
  obtain ⟨c, hc, e, _⟩ := (h6 r s hr hs).mp z
  obtain ⟨a, b, d, v⟩ := h3 c hc
  rw [← e, a, b, d]; exact v
theorem mt_core_sl (h : mt_core m sl iv cn op kn og st mv nd ar kw) {c : Nat} (hc : c < m) : sl c < 180 := by
  have := (h.2.1 c hc).2.2
  have := h.1
  omega
theorem mt_core_kn (h : mt_core m sl iv cn op kn og st mv nd ar kw) {r c : Nat} (hr : r < 3) (hc : c < m) : (¬ kn (r * 180 + sl c) = 0 ↔ ¬ kw (r * 60 + c) = 0) := by
  rw [h.2.2.2.2.2.1 r (sl c) hr (mt_core_sl h hc)]
  refine ⟨fun ⟨d, hd, e, y⟩ => ?_, fun y => ⟨c, hc, rfl, y⟩⟩
  rw [← mt_core_inj h hd hc e]; exact y
theorem mt_core_ok (h : mt_core m sl iv cn op kn og st mv nd ar kw) {r S : Nat} (hr : r < 3) (hS : S ≤ 180) : ∀ n, n < 10 → mt_ok ((mt_rp iv cn op kn r S).1 n) :=
  mt_rp_ok S (fun s hs z => mt_core_v h hr (by omega) z)
-- the number of the next stamp, less one
theorem mt_max (kw : Nat → Int32) (sl : Nat → Nat) (r : Nat) : ∀ m : Nat, ∃ q, (∀ c, c < m → ¬ kw (r * 60 + c) = 0 → sl c / 3 + 1 ≤ q) ∧ (q = 0 ∨ ∃ c, c < m ∧ ¬ kw (r * 60 + c) = 0 ∧ sl c / 3 + 1 = q) := by
  intro m
  induction m with
  | zero => exact ⟨0, fun c hc => by omega, Or.inl rfl⟩
  | succ m ih =>
    obtain ⟨q, h1, h2⟩ := ih
    by_cases z : kw (r * 60 + m) = 0
    · refine ⟨q, fun c hc y => ?_, h2.imp id (fun ⟨c, hc, y⟩ => ⟨c, by omega, y⟩)⟩
      by_cases e : c = m
      · rw [e] at y; exact absurd z y
      · exact h1 c (by omega) y
    · by_cases l : sl m / 3 + 1 ≤ q
      · refine ⟨q, fun c hc y => ?_, h2.imp id (fun ⟨c, hc, y⟩ => ⟨c, by omega, y⟩)⟩
        by_cases e : c = m
        · rw [e]; exact l
        · exact h1 c (by omega) y
      · refine ⟨sl m / 3 + 1, fun c hc y => ?_, Or.inr ⟨m, by omega, z, rfl⟩⟩
        by_cases e : c = m
        · rw [e]; exact Nat.le_refl _
        · have := h1 c (by omega) y; omega
def mt_q (m : Nat) (sl : Nat → Nat) (kw : Nat → Int32) (r q : Nat) : Prop := (∀ c, c < m → ¬ kw (r * 60 + c) = 0 → sl c / 3 + 1 ≤ q) ∧ (q = 0 ∨ ∃ c, c < m ∧ ¬ kw (r * 60 + c) = 0 ∧ sl c / 3 + 1 = q)
theorem mt_q_le (h : mt_core m sl iv cn op kn og st mv nd ar kw) {r q : Nat} (hq : mt_q m sl kw r q) : q ≤ m := by
  rcases hq.2 with e | ⟨c, hc, _, e⟩
  · omega
  · have := (h.2.1 c hc).2.2; omega
theorem mt_q_uniq {r q p : Nat} (hq : mt_q m sl kw r q) (hp : mt_q m sl kw r p) : p = q := by
  obtain ⟨a1, a2⟩ := hq
  obtain ⟨b1, b2⟩ := hp
  rcases a2 with e | ⟨c, hc, y, e⟩
  · rcases b2 with e' | ⟨d, hd, y', e'⟩
    · omega
    · have := a1 d hd y'; omega
  · have := b1 c hc y
    rcases b2 with e' | ⟨d, hd, y', e'⟩
    · omega
    · have := a1 d hd y'; omega
-- all that r knows lies below the next slot
theorem mt_q_lt (h : mt_core m sl iv cn op kn og st mv nd ar kw) {r q s : Nat} (hr : r < 3) (hq : mt_q m sl kw r q) (hs : s < 180) (z : ¬ kn (r * 180 + s) = 0) : s < 3 * q + r := by
  obtain ⟨c, hc, e, y⟩ := (h.2.2.2.2.2.1 r s hr hs).mp z
  have := hq.1 c hc y
  omega
def mt_sn (sl : Nat → Nat) (m t : Nat) : Nat → Nat := fun c => if c = m then t else sl c
theorem mt_sn_s {sl : Nat → Nat} {m t : Nat} : mt_sn sl m t m = t := if_pos rfl
theorem mt_sn_n {sl : Nat → Nat} {m t c : Nat} (h : c ≠ m) : mt_sn sl m t c = sl c := if_neg h
-- no change has the next slot yet
theorem mt_q_new (h : mt_core m sl iv cn op kn og st mv nd ar kw) {r q c : Nat} (hr : r < 3) (hq : mt_q m sl kw r q) (hc : c < m) : sl c ≠ 3 * q + r := by
  intro e
  have h4 := h.2.2.2.1 c hc
  have e3 : sl c % 3 = r := by omega
  rw [e3] at h4
  have := hq.1 c hc h4
  omega
theorem mt_core_new (h : mt_core m sl iv cn op kn og st mv nd ar kw) {r q : Nat} (hr : r < 3) (hm : m < 60) (hq : mt_q m sl kw r q) {b x y : Int32} (hv : mt_v b x y) :
    mt_core (m + 1) (mt_sn sl m (3 * q + r)) (upd iv (3 * q + r) b) (upd cn (3 * q + r) x) (upd op (3 * q + r) y) (upd kn (r * 180 + (3 * q + r)) 1) (upd og m (nI r)) (upd st m (nI (q + 1))) (upd mv m b) (upd nd m x) (upd ar m y) (upd kw (r * 60 + m) 1) := by
  have ql := mt_q_le h hq
  have hnew := fun c hc => mt_q_new h (c := c) hr hq hc
  obtain ⟨h1, h2, h3, h4, h5, h6, h7⟩ := h
  refine ⟨by omega, fun c hc => ?_, fun c hc => ?_, fun c hc => ?_, fun c d hcd hd he => ?_, fun r' s hr' hs => ?_, fun r' c hr' hc hc' => ?_⟩
  · by_cases e : c = m
    · subst e
      rw [mt_sn_s, pk_us, pk_us]
      refine ⟨?_, ?_, by omega⟩
      · rw [show (3 * q + r) % 3 = r from by omega]
      · rw [show (3 * q + r) / 3 = q from by omega]
    · rw [mt_sn_n e, pk_un e, pk_un e]
      have := h2 c (by omega)
      exact ⟨this.1, this.2.1, by omega⟩
  · by_cases e : c = m
    · subst e
      rw [mt_sn_s, pk_us, pk_us, pk_us, pk_us, pk_us, pk_us]
      exact ⟨rfl, rfl, rfl, hv⟩
    · have n := hnew c (by omega)
      rw [mt_sn_n e, pk_un n, pk_un n, pk_un n, pk_un e, pk_un e, pk_un e]
      exact h3 c (by omega)
  · by_cases e : c = m
    · subst e
      rw [mt_sn_s, show (3 * q + r) % 3 = r from by omega, pk_us]
      decide
    · rw [mt_sn_n e, pk_un (by omega)]
      exact h4 c (by omega)
  · have n1 : c ≠ m := by omega
    rw [mt_sn_n n1] at he ⊢
    by_cases e : d = m
    · subst e
      rw [mt_sn_s] at he ⊢
      have k := h4 c (by omega)
      rw [show sl c % 3 = r from by omega] at k
      have := hq.1 c (by omega) k
      omega
    · rw [mt_sn_n e] at he ⊢
      exact h5 c d hcd (by omega) he
  · by_cases e : r' * 180 + s = r * 180 + (3 * q + r)
    · have er : r' = r := by omega
      have es : s = 3 * q + r := by omega
      subst er es
      rw [pk_us]
      exact ⟨fun _ => ⟨m, by omega, mt_sn_s, by rw [pk_us]; decide⟩, fun _ => by decide⟩
    · rw [pk_un e, h6 r' s hr' hs]
      refine ⟨fun ⟨c, hc, es, k⟩ => ⟨c, by omega, ?_, ?_⟩, fun ⟨c, hc, es, k⟩ => ?_⟩
      · rw [mt_sn_n (by omega)]; exact es
      · rw [pk_un (by omega)]; exact k
      · by_cases ec : c = m
        · subst ec
          rw [mt_sn_s] at es
          rw [pk_un (by omega)] at k
          exact absurd (h7 r' c hr' (Nat.le_refl c) hm) k
        · rw [mt_sn_n ec] at es
          rw [pk_un (by omega)] at k
          exact ⟨c, by omega, es, k⟩
  · rw [pk_un (by omega)]
    exact h7 r' c hr' (by omega) hc'
-- the replays after a make
theorem mt_new_o (h : mt_core m sl iv cn op kn og st mv nd ar kw) {r q : Nat} (hr : r < 3) (hm : m < 60) (hq : mt_q m sl kw r q) (b x y : Int32) {r' : Nat} (hr' : r' < 3) (ne : r' ≠ r) :
    mt_rp (upd iv (3 * q + r) b) (upd cn (3 * q + r) x) (upd op (3 * q + r) y) (upd kn (r * 180 + (3 * q + r)) 1) r' 180 = mt_rp iv cn op kn r' 180 := by
  have ql := mt_q_le h hq
  refine (mt_rp_cong 180 (fun s hs => ?_) (fun s hs z => ?_)).symm
  · rw [pk_un (by omega)]
  · have n : s ≠ 3 * q + r := by
      intro e
      obtain ⟨c, hc, es, _⟩ := (h.2.2.2.2.2.1 r' s hr' hs).mp z
      exact mt_q_new h hr hq hc (es.trans e)
    rw [pk_un n, pk_un n, pk_un n]
    exact ⟨rfl, rfl, rfl⟩
theorem mt_new_t (h : mt_core m sl iv cn op kn og st mv nd ar kw) {r q : Nat} (hr : r < 3) (hm : m < 60) (hq : mt_q m sl kw r q) (b x y : Int32) :
    mt_rp (upd iv (3 * q + r) b) (upd cn (3 * q + r) x) (upd op (3 * q + r) y) (upd kn (r * 180 + (3 * q + r)) 1) r (3 * q + r) = mt_rp iv cn op kn r 180 := by
  have ql := mt_q_le h hq
  have e1 : mt_rp iv cn op kn r 180 = mt_rp iv cn op kn r (3 * q + r) := by
    refine mt_rp_gap' (by omega) (fun s h1 h2 => ?_)
    by_cases z : kn (r * 180 + s) = 0
    · exact z
    · have := mt_q_lt h hr hq h2 z; omega
  rw [e1]
  refine (mt_rp_cong (3 * q + r) (fun s hs => ?_) (fun s hs z => ?_)).symm
  · rw [pk_un (by omega)]
  · have n : s ≠ 3 * q + r := by omega
    rw [pk_un n, pk_un n, pk_un n]
    exact ⟨rfl, rfl, rfl⟩
theorem mt_new_s (h : mt_core m sl iv cn op kn og st mv nd ar kw) {r q : Nat} (hr : r < 3) (hm : m < 60) (hq : mt_q m sl kw r q) (b x y : Int32) :
    mt_rp (upd iv (3 * q + r) b) (upd cn (3 * q + r) x) (upd op (3 * q + r) y) (upd kn (r * 180 + (3 * q + r)) 1) r 180 = mt_ap b x y (mt_rp iv cn op kn r 180) := by
  have ql := mt_q_le h hq
  rw [mt_rp_gap' (S := 3 * q + r + 1) (by omega) (fun s h1 h2 => ?_), mt_rp_y (by rw [pk_us]; decide), mt_new_t h hr hm hq b x y, pk_us, pk_us, pk_us]
  rw [pk_un (by omega)]
  by_cases z : kn (r * 180 + s) = 0
  · exact z
  · have := mt_q_lt h hr hq h2 z; omega
end
end
section
-- the tests of arguments
theorem mt_Xr_t {post : Int32 → Prop} {r : Nat} (hr : r < 3) (h : post 1) : wpX_isReplica post (nI r) :=
  br_f (nI_pos (by omega)) (br_f (nI_ge (b := 3) hr (by decide)) h)
theorem mt_Xr_f {post : Int32 → Prop} {x : Int32} (hx : ¬ ∃ r : Nat, r < 3 ∧ x = nI r) (h : post 0) : wpX_isReplica post x := by
  refine br_c (fun _ => h) (fun h0 => br_c (fun _ => h) (fun h3 => ?_))
  rcases pk_ix x (n := 3) (by decide) with a | a | a
  · exact absurd a h0
  · exact absurd a h3
  · exact absurd a hx
theorem mt_Xn_t {post : Int32 → Prop} {r : Nat} (hr : r < 10) (h : post 1) : wpX_isNode post (nI r) :=
  br_f (nI_pos (by omega)) (br_f (nI_ge (b := 10) hr (by decide)) h)
theorem mt_Xn_f {post : Int32 → Prop} {x : Int32} (hx : ¬ ∃ r : Nat, r < 10 ∧ x = nI r) (h : post 0) : wpX_isNode post x := by
  refine br_c (fun _ => h) (fun h0 => br_c (fun _ => h) (fun h3 => ?_))
  rcases pk_ix x (n := 10) (by decide) with a | a | a
  · exact absurd a h0
  · exact absurd a h3
  · exact absurd a hx
theorem mt_Yr_t {post : Int32 → Prop} {r : Nat} (hr : r < 3) (h : post 0) : wpY_bad post (nI r) :=
  br_f (nI_pos (by omega)) (br_t (nI_le (b := 2) (by omega) (by decide)) h)
theorem mt_Yr_f {post : Int32 → Prop} {x : Int32} (hx : ¬ ∃ r : Nat, r < 3 ∧ x = nI r) (h : post 1) : wpY_bad post x := by
  refine br_c (fun _ => h) (fun h0 => br_c (fun h3 => ?_) (fun _ => h))
  obtain ⟨j, hj, e⟩ := nI_of2 (M := 2) (n := 2) (by decide) h0 h3
  exact absurd ⟨j, by omega, e⟩ hx
theorem mt_Yn_t {post : Int32 → Prop} {r : Nat} (hr : r < 10) (h : post 0) : wpY_badNode post (nI r) :=
  br_f (nI_pos (by omega)) (br_t (nI_le (b := 9) (by omega) (by decide)) h)
theorem mt_Yn_f {post : Int32 → Prop} {x : Int32} (hx : ¬ ∃ r : Nat, r < 10 ∧ x = nI r) (h : post 1) : wpY_badNode post x := by
  refine br_c (fun _ => h) (fun h0 => br_c (fun h3 => ?_) (fun _ => h))
  obtain ⟨j, hj, e⟩ := nI_of2 (M := 9) (n := 9) (by decide) h0 h3
  exact absurd ⟨j, by omega, e⟩ hx
-- what the class shows at r; what of it the others keep
def mt_VX (r : Nat) (sp sb sm : Nat → Int32) (T : mt_T) : Prop := (∀ n, n < 10 → sp (r * 10 + n) = T.1 n ∧ sb (r * 10 + n) = T.2.1 n) ∧ sm r = T.2.2
def mt_FR (r : Nat) (sp sb sm sp' sb' sm' : Nat → Int32) : Prop := ∀ r', r' < 3 → r' ≠ r → (∀ n, n < 10 → sp' (r' * 10 + n) = sp (r' * 10 + n) ∧ sb' (r' * 10 + n) = sb (r' * 10 + n)) ∧ sm' r' = sm r'
theorem mt_FR_r {r : Nat} {sp sb sm : Nat → Int32} : mt_FR r sp sb sm sp sb sm := fun _ _ _ => ⟨fun _ _ => ⟨rfl, rfl⟩, rfl⟩
theorem mt_FR_t {r : Nat} {sp sb sm sp' sb' sm' sp2 sb2 sm2 : Nat → Int32} (h : mt_FR r sp sb sm sp' sb' sm') (g : mt_FR r sp' sb' sm' sp2 sb2 sm2) : mt_FR r sp sb sm sp2 sb2 sm2 :=
  fun r' hr ne => ⟨fun n hn => ⟨((g r' hr ne).1 n hn).1.trans ((h r' hr ne).1 n hn).1, ((g r' hr ne).1 n hn).2.trans ((h r' hr ne).1 n hn).2⟩, (g r' hr ne).2.trans (h r' hr ne).2⟩
theorem mt_FR_p {r j : Nat} {sp sb sm : Nat → Int32} {x : Int32} (hj : j < 10) : mt_FR r sp sb sm (upd sp (r * 10 + j) x) sb sm :=
  fun r' _ ne => ⟨fun n hn => ⟨pk_un (by omega), rfl⟩, rfl⟩
theorem mt_FR_l {r j : Nat} {sp sb sm : Nat → Int32} {x : Int32} (hj : j < 10) : mt_FR r sp sb sm sp (upd sb (r * 10 + j) x) sm :=
  fun r' _ ne => ⟨fun n hn => ⟨rfl, pk_un (by omega)⟩, rfl⟩
theorem mt_FR_s {r : Nat} {sp sb sm : Nat → Int32} {x : Int32} : mt_FR r sp sb sm sp sb (upd sm r x) :=
  fun r' _ ne => ⟨fun n hn => ⟨rfl, rfl⟩, pk_un ne⟩
theorem mt_FR_V {r r' : Nat} {sp sb sm sp' sb' sm' : Nat → Int32} {T : mt_T} (h : mt_FR r sp sb sm sp' sb' sm') (hr : r' < 3) (ne : r' ≠ r) (g : mt_VX r' sp sb sm T) : mt_VX r' sp' sb' sm' T :=
  ⟨fun n hn => ⟨((h r' hr ne).1 n hn).1.trans (g.1 n hn).1, ((h r' hr ne).1 n hn).2.trans (g.1 n hn).2⟩, (h r' hr ne).2.trans g.2⟩
theorem mt_upd10 {f g : Nat → Int32} {r j : Nat} {x : Int32} (h : ∀ n, n < 10 → f (r * 10 + n) = g n) : ∀ n, n < 10 → upd f (r * 10 + j) x (r * 10 + n) = upd g j x n := by
  intro n hn
  by_cases e : n = j
  · rw [e, pk_us, pk_us]
  · rw [pk_un (by omega), pk_un e]; exact h n hn
section
variable {cm : Int32} {iv cn op kn : Nat → Int32}
theorem mt_X_ab {sp sb sm : Nat → Int32} {r : Nat} (hr : r < 3) {p : Nat → Int32} (hp : ∀ n, n < 10 → sp (r * 10 + n) = p n) (ho : ∀ n, n < 10 → mt_ok (p n)) (nd : Int32) (post : Int32 → Prop) :
    ∀ (d i n : Nat) (a : Int32), i + d = 10 → d < n → mt_ok a → post (mt_ab p nd d a) → wX_isAtOrAbove_6 post (nI r) nd cm iv cn op kn sp sb sm n a (nI i) := by
  intro d
  induction d with
  | zero =>
    intro i n a hi hn _ hq
    obtain ⟨n, rfl⟩ : ∃ k, n = k + 1 := ⟨n - 1, by omega⟩
    exact br_t (nI_le (a := 10) (by omega) (by omega)) hq
  | succ d ih =>
    intro i n a hi hn ha hq
    obtain ⟨n, rfl⟩ : ∃ k, n = k + 1 := ⟨n - 1, by omega⟩
    refine br_f (nI_ge (b := 10) (by omega) (by decide)) ?_
    rw [mt_ab] at hq
    by_cases h1 : a = -1
    · rw [if_pos h1] at hq; exact br_t h1 hq
    · rw [if_neg h1] at hq
      refine br_f h1 ?_
      by_cases h2 : a = nd
      · rw [if_pos h2] at hq; exact br_t h2 hq
      · rw [if_neg h2] at hq
        refine br_f h2 ?_
        rcases ha with ha | ⟨j, hj, rfl⟩
        · exact absurd ha h1
        · rw [mt_cl (by omega)] at hq
          refine ⟨mt_in10 hr hj, nm_r (by rw [mt_c10 hr hj, hp j hj]) (nm_r (nI_1 i) ?_)⟩
          exact ih (i + 1) n _ (by omega) (by omega) (ho j hj) hq
theorem mt_X_co {sp sb sm : Nat → Int32} {r s : Nat} (hr : r < 3) (hs : s < 180) {T : mt_T} (hT : mt_VX r sp sb sm T) (ho : ∀ n, n < 10 → mt_ok (T.1 n)) (hv : mt_v (iv s) (cn s) (op s)) (post : Int32 → SX → Prop)
    (H : ∀ sp' sb' sm' : Nat → Int32, mt_VX r sp' sb' sm' (mt_ap (iv s) (cn s) (op s) T) → mt_FR r sp sb sm sp' sb' sm' → post (mt_an (iv s) (cn s) (op s) T) (cm, iv, cn, op, kn, sp', sb', sm')) :
    wpX_carryOut post (cm, iv, cn, op, kn, sp, sb, sm) (nI r) (nI s) := by
  obtain ⟨⟨j, hj, ej⟩, hm⟩ := hv
  have e : (nI s).toNatClampNeg = s := nI_clamp (by omega)
  have i1 : vp_in (nI s) 180 := vp_in_nI hs (by decide)
  have i3 : vp_in (nI r) 3 := vp_in_nI hr (by decide)
  have er : (nI r).toNatClampNeg = r := nI_clamp (by omega)
  unfold mt_ap mt_an at H
  unfold wpX_carryOut
  dsimp only
  rw [e, ej]
  rw [ej, mt_cl (by omega : j < 1000)] at H
  refine ⟨i1, nm_e ⟨i1, ?_⟩⟩
  by_cases z : iv s = 0
  · rw [if_pos z, if_pos z] at H
    refine br_t z ⟨i1, mt_in10 hr hj, nm_r (by rw [mt_c10 hr hj]) ?_⟩
    refine H _ _ _ ⟨fun n hn => ⟨(hT.1 n hn).1, ?_⟩, hT.2⟩ (mt_FR_l hj)
    exact mt_upd10 (fun n hn => (hT.1 n hn).2) n hn
  · rw [if_neg z, if_neg z] at H
    obtain ⟨q, hq, eq⟩ := hm z
    refine br_f z ⟨i1, ?_⟩
    unfold wpX_isAtOrAbove
    dsimp only
    refine ⟨11, mt_X_ab hr (fun n hn => (hT.1 n hn).1) ho (nI j) _ 10 0 11 (op s) rfl (by decide) (Or.inr ⟨q, hq, eq⟩) ?_⟩
    rcases mt_ab01 T.1 (nI j) 10 (op s) with y | y
    · rw [y] at H ⊢
      rw [if_pos rfl] at H
      refine br_t rfl ⟨i1, mt_in10 hr hj, nm_r (by rw [mt_c10 hr hj]) ?_⟩
      refine H _ _ _ ⟨fun n hn => ⟨?_, (hT.1 n hn).2⟩, hT.2⟩ (mt_FR_p hj)
      exact mt_upd10 (fun n hn => (hT.1 n hn).1) n hn
    · rw [y] at H ⊢
      rw [if_neg (by decide)] at H
      refine br_f (by decide) ⟨i3, i3, nm_r (by rw [er]) ?_⟩
      refine H _ _ _ ⟨hT.1, ?_⟩ mt_FR_s
      rw [pk_us, hT.2]
theorem mt_X_47 {r : Nat} (hr : r < 3) (hv : ∀ s, s < 180 → ¬ kn (r * 180 + s) = 0 → mt_v (iv s) (cn s) (op s)) (post : SX → Prop) :
    ∀ (d i n : Nat) (sp sb sm : Nat → Int32), i + d = 180 → d < n → mt_VX r sp sb sm (mt_rp iv cn op kn r i) → (∀ sp' sb' sm' : Nat → Int32, mt_VX r sp' sb' sm' (mt_rp iv cn op kn r 180) → mt_FR r sp sb sm sp' sb' sm' → post (cm, iv, cn, op, kn, sp', sb', sm')) → wX_showAnew_47 post (nI r) n (nI i) cm iv cn op kn sp sb sm := by
  intro d
  induction d with
  | zero =>
    intro i n sp sb sm hi hn hV H
    obtain ⟨n, rfl⟩ : ∃ k, n = k + 1 := ⟨n - 1, by omega⟩
    refine br_t (nI_le (a := 180) (by omega) (by omega)) ?_
    rw [show i = 180 from by omega] at hV
    exact H _ _ _ hV mt_FR_r
  | succ d ih =>
    intro i n sp sb sm hi hn hV H
    obtain ⟨n, rfl⟩ : ∃ k, n = k + 1 := ⟨n - 1, by omega⟩
    have hi2 : i < 180 := by omega
    refine br_f (nI_ge (b := 180) hi2 (by decide)) ⟨mt_in180 hr hi2, ?_⟩
    rw [mt_c180 hr hi2]
    by_cases z : kn (r * 180 + i) = 0
    · refine br_t z (nm_r (nI_1 i) ?_)
      exact ih (i + 1) n sp sb sm (by omega) (by omega) (by rw [mt_rp_n z]; exact hV) H
    · refine br_f z ?_
      refine mt_X_co hr hi2 hV (mt_rp_ok i (fun s hs => hv s (by omega))) (hv i hi2 z) _ ?_
      intro sp' sb' sm' hV' hF
      refine nm_r (nI_1 i) ?_
      exact ih (i + 1) n sp' sb' sm' (by omega) (by omega) (by rw [mt_rp_y z]; exact hV') (fun a b c h1 h2 => H a b c h1 (mt_FR_t hF h2))
theorem mt_X_2 {r : Nat} (hr : r < 3) (post : SX → Prop) (sm : Nat → Int32) :
    ∀ (d i n : Nat) (sp sb : Nat → Int32), i + d = 10 → d < n → (∀ k, k < i → sp (r * 10 + k) = -1 ∧ sb (r * 10 + k) = 0) → (∀ sp' sb' sm' : Nat → Int32, mt_VX r sp' sb' sm' mt_t0 → mt_FR r sp sb sm sp' sb' sm' → ∃ n47 : Nat, wX_showAnew_47 post (nI r) n47 0 cm iv cn op kn sp' sb' sm') → wX_showAnew_2 post (nI r) cm n (nI i) iv cn op kn sp sb sm := by
  intro d
  induction d with
  | zero =>
    intro i n sp sb hi hn hV H
    obtain ⟨n, rfl⟩ : ∃ k, n = k + 1 := ⟨n - 1, by omega⟩
    have ei : i = 10 := by omega
    refine br_t (nI_le (a := 10) (by omega) (by omega)) ⟨vp_in_nI hr (by decide), nm_r (by rw [mt_cl (by omega)]) ?_⟩
    exact H sp sb _ ⟨fun n hn => hV n (by omega), pk_us⟩ mt_FR_s
  | succ d ih =>
    intro i n sp sb hi hn hV H
    obtain ⟨n, rfl⟩ : ∃ k, n = k + 1 := ⟨n - 1, by omega⟩
    have hi2 : i < 10 := by omega
    refine br_f (nI_ge (b := 10) hi2 (by decide)) ⟨mt_in10 hr hi2, nm_r (by rw [mt_c10 hr hi2]) ⟨mt_in10 hr hi2, nm_r (by rw [mt_c10 hr hi2]) (nm_r (nI_1 i) ?_)⟩⟩
    refine ih (i + 1) n _ _ (by omega) (by omega) (fun k hk => ?_) (fun a b c h1 h2 => H a b c h1 (mt_FR_t (mt_FR_t (mt_FR_p hi2) (mt_FR_l hi2)) h2))
    by_cases e : k = i
    · rw [e, pk_us, pk_us]; exact ⟨rfl, rfl⟩
    · rw [pk_un (by omega), pk_un (by omega)]; exact hV k (by omega)
theorem mt_X_sa {sp sb sm : Nat → Int32} {r : Nat} (hr : r < 3) (hv : ∀ s, s < 180 → ¬ kn (r * 180 + s) = 0 → mt_v (iv s) (cn s) (op s)) (post : SX → Prop)
    (H : ∀ sp' sb' sm' : Nat → Int32, mt_VX r sp' sb' sm' (mt_rp iv cn op kn r 180) → mt_FR r sp sb sm sp' sb' sm' → post (cm, iv, cn, op, kn, sp', sb', sm')) :
    wpX_showAnew post (cm, iv, cn, op, kn, sp, sb, sm) (nI r) := by
  refine ⟨11, mt_X_2 hr post sm 10 0 11 sp sb rfl (by decide) (fun k hk => by omega) ?_⟩
  intro sp' sb' sm' hV hF
  exact ⟨181, mt_X_47 hr hv post 180 0 181 sp' sb' sm' rfl (by decide) hV (fun a b c h1 h2 => H a b c h1 (mt_FR_t hF h2))⟩
-- the next slot, looked for from above
theorem mt_X_ns4 {sp sb sm : Nat → Int32} {r q : Nat} (hr : r < 3) (h1 : ∀ s, s < 180 → ¬ kn (r * 180 + s) = 0 → s / 3 + 1 ≤ q) (h2 : q = 0 ∨ ∃ s, s < 180 ∧ ¬ kn (r * 180 + s) = 0 ∧ s / 3 + 1 = q) (post : Int32 → Prop) (hp : post (nI (3 * q + r))) :
    ∀ (i n : Nat) (x : Int32), i ≤ 180 → i < n → x = nI i + (-1) → (∀ s, i ≤ s → s < 180 → kn (r * 180 + s) = 0) → wX_nextSlot_4 post (nI r) cm iv cn op kn sp sb sm n x := by
  intro i
  induction i with
  | zero =>
    intro n x _ hn hx hz
    obtain ⟨n, rfl⟩ : ∃ k, n = k + 1 := ⟨n - 1, by omega⟩
    subst hx
    refine br_t (by decide) ?_
    rcases h2 with e | ⟨s, hs, k, _⟩
    · rw [e, Nat.mul_zero, Nat.zero_add] at hp; exact hp
    · exact absurd (hz s (by omega) hs) k
  | succ i ih =>
    intro n x hi hn hx hz
    obtain ⟨n, rfl⟩ : ∃ k, n = k + 1 := ⟨n - 1, by omega⟩
    rw [pk_m1] at hx
    subst hx
    refine br_f (nI_pos (by omega)) ⟨mt_in180 hr (by omega), ?_⟩
    rw [mt_c180 hr (by omega)]
    by_cases z : kn (r * 180 + i) = 0
    · refine br_t z (nm_e ?_)
      refine ih n _ (by omega) (by omega) rfl (fun s ha hb => ?_)
      by_cases e : s = i
      · rw [e]; exact z
      · exact hz s (by omega) hb
    · refine br_f z ⟨by decide, ?_⟩
      have l := h1 i (by omega) z
      have e : q = i / 3 + 1 := by
        rcases h2 with e | ⟨s, hs, k, e⟩
        · omega
        · have : s ≤ i := by
            by_cases g : s ≤ i
            · exact g
            · exact absurd (hz s (by omega) hs) k
          omega
      have e2 : (nI i / 3 + 1) * 3 + nI r = nI (3 * q + r) := by
        rw [show (3 : Int32) = nI 3 from rfl, pk_div (by omega) (by decide) (by decide), nI_1, pk_mul, nI_add, e, Nat.mul_comm]
      rw [e2]; exact hp
theorem mt_X_ns {sp sb sm : Nat → Int32} {r q : Nat} (hr : r < 3) (h1 : ∀ s, s < 180 → ¬ kn (r * 180 + s) = 0 → s / 3 + 1 ≤ q) (h2 : q = 0 ∨ ∃ s, s < 180 ∧ ¬ kn (r * 180 + s) = 0 ∧ s / 3 + 1 = q) (post : Int32 → Prop) (hp : post (nI (3 * q + r))) :
    wpX_nextSlot post (cm, iv, cn, op, kn, sp, sb, sm) (nI r) :=
  ⟨181, mt_X_ns4 hr h1 h2 post hp 180 181 179 (by decide) (by decide) (by decide) (fun s ha hb => by omega)⟩
theorem mt_X_mk {sp sb sm : Nat → Int32} {r q : Nat} (hr : r < 3) (hq : q < 60) (h1 : ∀ s, s < 180 → ¬ kn (r * 180 + s) = 0 → s / 3 + 1 ≤ q) (h2 : q = 0 ∨ ∃ s, s < 180 ∧ ¬ kn (r * 180 + s) = 0 ∧ s / 3 + 1 = q) {b x y : Int32} (hv : mt_v (vp_nar .boolean b) x y) {T : mt_T} (hT : mt_VX r sp sb sm T) (ho : ∀ n, n < 10 → mt_ok (T.1 n)) (post : Int32 → SX → Prop)
    (H : ∀ sp' sb' sm' : Nat → Int32, mt_VX r sp' sb' sm' (mt_ap (vp_nar .boolean b) x y T) → mt_FR r sp sb sm sp' sb' sm' → post (mt_an (vp_nar .boolean b) x y T) (cm + 1, upd iv (3 * q + r) (vp_nar .boolean b), upd cn (3 * q + r) x, upd op (3 * q + r) y, upd kn (r * 180 + (3 * q + r)) 1, sp', sb', sm')) :
    wpX_make post (cm, iv, cn, op, kn, sp, sb, sm) (nI r) b x y := by
  have ht : 3 * q + r < 180 := by omega
  have i1 : vp_in (nI (3 * q + r)) 180 := vp_in_nI ht (by decide)
  have e1 : (nI (3 * q + r)).toNatClampNeg = 3 * q + r := nI_clamp (by omega)
  unfold wpX_make
  dsimp only
  refine mt_X_ns hr h1 h2 _ ?_
  refine ⟨i1, nm_r (by rw [e1]) ⟨i1, nm_r (by rw [e1]) ⟨i1, nm_r (by rw [e1]) ⟨mt_in180 hr ht, nm_r (by rw [mt_c180 hr ht, mt_b1]) (nm_e ?_)⟩⟩⟩⟩
  refine mt_X_co hr ht hT ho ?_ _ ?_
  · rw [pk_us, pk_us, pk_us]; exact hv
  · rw [pk_us, pk_us, pk_us]
    exact fun a b c h1 h2 => H a b c h1 h2
-- the first that is missing
theorem mt_X_mi {sp sb sm : Nat → Int32} {f t s : Nat} (hf : f < 3) (ht : t < 3) (hs : s < 180) (post : Int32 → Prop) (ha : kn (f * 180 + s) = 0 → post 0) (hb : ¬ kn (f * 180 + s) = 0 → kn (t * 180 + s) = 0 → post 1) (hc : ¬ kn (f * 180 + s) = 0 → ¬ kn (t * 180 + s) = 0 → post 0) :
    wpX_isMissing post (cm, iv, cn, op, kn, sp, sb, sm) (nI f) (nI t) (nI s) := by
  unfold wpX_isMissing
  dsimp only
  rw [mt_c180 hf hs, mt_c180 ht hs]
  exact ⟨mt_in180 hf hs, br_c ha (fun z => ⟨mt_in180 ht hs, br_c (hb z) (hc z)⟩)⟩
theorem mt_X_fm2 {sp sb sm : Nat → Int32} {f t : Nat} (hf : f < 3) (ht : t < 3) (post : Int32 → Prop)
    (hN : (∀ s, s < 180 → s % 3 = f → ¬ kn (f * 180 + s) = 0 → ¬ kn (t * 180 + s) = 0) → post (-1))
    (hY : ∀ s, s < 180 → s % 3 = f → ¬ kn (f * 180 + s) = 0 → kn (t * 180 + s) = 0 → (∀ s', s' < s → s' % 3 = f → ¬ kn (f * 180 + s') = 0 → ¬ kn (t * 180 + s') = 0) → post (nI s)) :
    ∀ (d i n : Nat), i + d = 60 → d < n → (∀ s, s < 3 * i → s % 3 = f → ¬ kn (f * 180 + s) = 0 → ¬ kn (t * 180 + s) = 0) → wX_firstMissing_2 post (nI f) (nI t) cm iv cn op kn sp sb sm n (nI (3 * i + f)) := by
  intro d
  induction d with
  | zero =>
    intro i n hi hn hz
    obtain ⟨n, rfl⟩ : ∃ k, n = k + 1 := ⟨n - 1, by omega⟩
    exact br_t (nI_le (a := 180) (by omega) (by omega)) (hN (fun s hs => hz s (by omega)))
  | succ d ih =>
    intro i n hi hn hz
    obtain ⟨n, rfl⟩ : ∃ k, n = k + 1 := ⟨n - 1, by omega⟩
    have hs : 3 * i + f < 180 := by omega
    have go : (¬ kn (f * 180 + (3 * i + f)) = 0 → ¬ kn (t * 180 + (3 * i + f)) = 0) → wX_firstMissing_2 post (nI f) (nI t) cm iv cn op kn sp sb sm n (nI (3 * (i + 1) + f)) := by
      intro g
      refine ih (i + 1) n (by omega) (by omega) (fun s h1 h2 => ?_)
      by_cases e : s = 3 * i + f
      · rw [e]; exact g
      · exact hz s (by omega) h2
    have e3 : nI (3 * i + f) + 3 = nI (3 * (i + 1) + f) := by
      rw [show (3 : Int32) = nI 3 from rfl, nI_add, show 3 * i + f + 3 = 3 * (i + 1) + f from by omega]
    refine br_f (nI_ge (b := 180) hs (by decide)) ?_
    refine mt_X_mi hf ht hs _ (fun z => ?_) (fun z y => ?_) (fun z y => ?_)
    · exact br_t rfl (nm_r e3 (go (fun q => absurd z q)))
    · exact br_f (by decide) (hY _ hs (by omega) z y (fun s' h h2 => hz s' (by omega) h2))
    · exact br_t rfl (nm_r e3 (go (fun _ => y)))
theorem mt_X_fm {sp sb sm : Nat → Int32} {f t : Nat} (hf : f < 3) (ht : t < 3) (post : Int32 → Prop)
    (hN : (∀ s, s < 180 → s % 3 = f → ¬ kn (f * 180 + s) = 0 → ¬ kn (t * 180 + s) = 0) → post (-1))
    (hY : ∀ s, s < 180 → s % 3 = f → ¬ kn (f * 180 + s) = 0 → kn (t * 180 + s) = 0 → (∀ s', s' < s → s' % 3 = f → ¬ kn (f * 180 + s') = 0 → ¬ kn (t * 180 + s') = 0) → post (nI s)) :
    wpX_firstMissing post (cm, iv, cn, op, kn, sp, sb, sm) (nI f) (nI t) := by
  have h := mt_X_fm2 (cm := cm) (iv := iv) (cn := cn) (op := op) (sp := sp) (sb := sb) (sm := sm) hf ht post hN hY 60 0 61 rfl (by decide) (fun s hs => by omega)
  rw [Nat.mul_zero, Nat.zero_add] at h
  exact ⟨61, h⟩
theorem mt_X_sy {sp sb sm : Nat → Int32} {f t : Nat} (hf : f < 3) (ht : t < 3) (kn0 : Nat → Int32) (post : Int32 → SX → Prop)
    (H : wpX_showAnew (fun u => match u with | (f_changesMade_7, a_isMove_8, a_changedNode_9, a_operand_10, a_known_11, a_shownParent_12, a_shownLabel_13, a_skippedMoves_14) => (post (nI (mt_sy (f * 180) (t * 180) kn0 180).2) (f_changesMade_7, a_isMove_8, a_changedNode_9, a_operand_10, a_known_11, a_shownParent_12, a_shownLabel_13, a_skippedMoves_14))) (cm, iv, cn, op, (mt_sy (f * 180) (t * 180) kn0 180).1, sp, sb, sm) (nI t)) :
    ∀ (d i n : Nat), i + d = 180 → d < n → wX_sync_21 post (nI f) (nI t) cm n (nI (mt_sy (f * 180) (t * 180) kn0 i).2) (nI i) iv cn op (mt_sy (f * 180) (t * 180) kn0 i).1 sp sb sm := by
  intro d
  induction d with
  | zero =>
    intro i n hi hn
    obtain ⟨n, rfl⟩ : ∃ k, n = k + 1 := ⟨n - 1, by omega⟩
    refine br_t (nI_le (a := 180) (by omega) (by omega)) ?_
    rw [show i = 180 from by omega]
    exact H
  | succ d ih =>
    intro i n hi hn
    obtain ⟨n, rfl⟩ : ∃ k, n = k + 1 := ⟨n - 1, by omega⟩
    have hs : i < 180 := by omega
    have g := ih (i + 1) n (by omega) (by omega)
    refine br_f (nI_ge (b := 180) hs (by decide)) ?_
    refine mt_X_mi hf ht hs _ (fun z => ?_) (fun z y => ?_) (fun z y => ?_)
    · rw [mt_sy, if_pos z] at g
      exact br_t rfl (nm_r (nI_1 i) g)
    · rw [mt_sy, if_neg z, if_pos y] at g
      exact br_f (by decide) ⟨mt_in180 ht hs, nm_r (by rw [mt_c180 ht hs, mt_b1]) (nm_r (nI_1 _) (nm_r (nI_1 i) g))⟩
    · rw [mt_sy, if_neg z, if_neg y] at g
      exact br_t rfl (nm_r (nI_1 i) g)
end
end
section
-- what the reference's scratch shows
def mt_VY (pa la : Nat → Int32) (sk : Int32) (T : mt_T) : Prop := (∀ n, n < 10 → pa n = T.1 n ∧ la n = T.2.1 n) ∧ sk = T.2.2
theorem mt_upd1 {f g : Nat → Int32} {j : Nat} {x : Int32} (h : ∀ n, n < 10 → f n = g n) : ∀ n, n < 10 → upd f j x n = upd g j x n := by
  intro n hn
  by_cases e : n = j
  · rw [e, pk_us, pk_us]
  · rw [pk_un e, pk_un e]; exact h n hn
section
variable {md sk : Int32} {og st mv nd ar kw pa la dn oq ol : Nat → Int32}
theorem mt_Y_ab {p : Nat → Int32} (hp : ∀ n, n < 10 → pa n = p n) (ho : ∀ n, n < 10 → mt_ok (p n)) (x : Int32) (post : Int32 → Prop) :
    ∀ (d i n : Nat) (a : Int32), i + d = 10 → d < n → mt_ok a → post (mt_ab p x d a) → wY_above_5 post x md sk og st mv nd ar kw pa la dn oq ol n a (nI i) := by
  intro d
  induction d with
  | zero =>
    intro i n a hi hn _ hq
    obtain ⟨n, rfl⟩ : ∃ k, n = k + 1 := ⟨n - 1, by omega⟩
    exact br_t (nI_le (a := 10) (by omega) (by omega)) hq
  | succ d ih =>
    intro i n a hi hn ha hq
    obtain ⟨n, rfl⟩ : ∃ k, n = k + 1 := ⟨n - 1, by omega⟩
    refine br_f (nI_ge (b := 10) (by omega) (by decide)) ?_
    rw [mt_ab] at hq
    rcases ha with rfl | ⟨j, hj, rfl⟩
    · rw [if_pos rfl] at hq; exact br_t (by decide) hq
    · rw [if_neg (mt_ok_neg hj)] at hq
      refine br_f (nI_pos (by omega)) ?_
      by_cases h2 : nI j = x
      · rw [if_pos h2] at hq; exact br_t h2 hq
      · rw [if_neg h2, mt_cl (by omega)] at hq
        refine br_f h2 ⟨vp_in_nI hj (by decide), nm_r (by rw [mt_cl (by omega), hp j hj]) (nm_r (nI_1 i) ?_)⟩
        exact ih (i + 1) n _ (by omega) (by omega) (ho j hj) hq
end
section
variable {m : Nat} {sl : Nat → Nat} {iv cn op kn og st mv nd ar kw : Nat → Int32} {md sk : Int32} {pa la dn oq ol : Nat → Int32}
theorem mt_Y_er (h : mt_core m sl iv cn op kn og st mv nd ar kw) {c d : Nat} (hc : c < m) (hd : d < m) (post : Int32 → Prop) (h1 : sl c < sl d → post 1) (h0 : ¬ sl c < sl d → post 0) :
    wpY_earlier post (md, sk, og, st, mv, nd, ar, kw, pa, la, dn, oq, ol) (nI c) (nI d) := by
  have hm := h.1
  obtain ⟨a1, a2, a3⟩ := h.2.1 c hc
  obtain ⟨b1, b2, b3⟩ := h.2.1 d hd
  have ic : vp_in (nI c) 60 := vp_in_nI (by omega) (by decide)
  have id' : vp_in (nI d) 60 := vp_in_nI (by omega) (by decide)
  unfold wpY_earlier
  dsimp only
  rw [mt_cl (by omega), mt_cl (by omega), a1, a2, b1, b2]
  refine ⟨ic, id', pk_lt (sl c / 3 + 1) (sl d / 3 + 1) (fun l => h1 (by omega)) (fun l => ⟨ic, id', ?_⟩)⟩
  refine pk_eq (sl c / 3 + 1) (sl d / 3 + 1) (fun e => ⟨ic, id', ?_⟩) (fun e => h0 (by omega))
  exact pk_le (sl d % 3) (sl c % 3) (fun l => h0 (by omega)) (fun l => h1 (by omega))
theorem mt_Y_e4 (h : mt_core m sl iv cn op kn og st mv nd ar kw) {r : Nat} (hr : r < 3) (post : Int32 → Prop)
    (hN : (∀ c, c < m → ¬ kw (r * 60 + c) = 0 → ¬ dn c = 0) → post (-1))
    (hY : ∀ c, c < m → ¬ kw (r * 60 + c) = 0 → dn c = 0 → (∀ d, d < m → ¬ kw (r * 60 + d) = 0 → dn d = 0 → sl c ≤ sl d) → post (nI c)) :
    ∀ (d i n : Nat) (x : Int32), i + d = m → d < n → ((x = -1 ∧ ∀ c, c < i → ¬ kw (r * 60 + c) = 0 → ¬ dn c = 0) ∨ (∃ c, x = nI c ∧ c < i ∧ ¬ kw (r * 60 + c) = 0 ∧ dn c = 0 ∧ (∀ d, d < i → ¬ kw (r * 60 + d) = 0 → dn d = 0 → sl c ≤ sl d))) → wY_earliest_4 post (nI r) (nI m) sk og st mv nd ar kw pa la dn oq ol n x (nI i) := by
  have hm := h.1
  intro d
  induction d with
  | zero =>
    intro i n x hi hn hx
    obtain ⟨n, rfl⟩ : ∃ k, n = k + 1 := ⟨n - 1, by omega⟩
    refine br_t (nI_le (by omega) (by omega)) ?_
    obtain rfl : i = m := by omega
    rcases hx with ⟨rfl, k⟩ | ⟨c, rfl, hc, k1, k2, k3⟩
    · exact hN k
    · exact hY c hc k1 k2 k3
  | succ d ih =>
    intro i n x hi hn hx
    obtain ⟨n, rfl⟩ : ∃ k, n = k + 1 := ⟨n - 1, by omega⟩
    have hi2 : i < m := by omega
    refine br_f (nI_ge hi2 (by omega)) ⟨mt_in60 hr (by omega), ?_⟩
    rw [mt_c60 hr (by omega)]
    -- the change i is no candidate
    have keep : (kw (r * 60 + i) = 0 ∨ ¬ dn i = 0) → wY_earliest_4 post (nI r) (nI m) sk og st mv nd ar kw pa la dn oq ol n x (nI (i + 1)) := by
      intro g
      refine ih (i + 1) n x (by omega) (by omega) ?_
      rcases hx with ⟨e, k⟩ | ⟨c, e, hc, k1, k2, k3⟩
      · refine Or.inl ⟨e, fun c hc y => ?_⟩
        by_cases q : c = i
        · rw [q] at y ⊢
          rcases g with g | g
          · exact absurd g y
          · exact g
        · exact k c (by omega) y
      · refine Or.inr ⟨c, e, by omega, k1, k2, fun d hd y z => ?_⟩
        by_cases q : d = i
        · rw [q] at y z
          rcases g with g | g
          · exact absurd g y
          · exact absurd z g
        · exact k3 d (by omega) y z
    by_cases y : kw (r * 60 + i) = 0
    · exact br_t y (nm_r (nI_1 i) (keep (Or.inl y)))
    · refine br_f y ⟨vp_in_nI (by omega) (by decide), ?_⟩
      rw [mt_cl (by omega)]
      by_cases z : dn i = 0
      · refine br_t z ?_
        rcases hx with ⟨rfl, k⟩ | ⟨c, rfl, hc, k1, k2, k3⟩
        · refine br_t (by decide) (nm_r (nI_1 i) ?_)
          refine ih (i + 1) n _ (by omega) (by omega) (Or.inr ⟨i, rfl, by omega, y, z, fun d hd y' z' => ?_⟩)
          by_cases q : d = i
          · rw [q]; exact Nat.le_refl _
          · exact absurd z' (k d (by omega) y')
        · refine br_f (nI_pos (by omega)) ?_
          refine mt_Y_er h hi2 (by omega) _ (fun l => ?_) (fun l => ?_)
          · refine br_f (by decide) (nm_r (nI_1 i) ?_)
            refine ih (i + 1) n _ (by omega) (by omega) (Or.inr ⟨i, rfl, by omega, y, z, fun d hd y' z' => ?_⟩)
            by_cases q : d = i
            · rw [q]; exact Nat.le_refl _
            · have := k3 d (by omega) y' z'; omega
          · refine br_t rfl (nm_r (nI_1 i) ?_)
            refine ih (i + 1) n _ (by omega) (by omega) (Or.inr ⟨c, rfl, by omega, k1, k2, fun d hd y' z' => ?_⟩)
            by_cases q : d = i
            · rw [q]; omega
            · exact k3 d (by omega) y' z'
      · exact br_f z (nm_r (nI_1 i) (keep (Or.inr z)))
theorem mt_Y_es (h : mt_core m sl iv cn op kn og st mv nd ar kw) {r : Nat} (hr : r < 3) (post : Int32 → Prop)
    (hN : (∀ c, c < m → ¬ kw (r * 60 + c) = 0 → ¬ dn c = 0) → post (-1))
    (hY : ∀ c, c < m → ¬ kw (r * 60 + c) = 0 → dn c = 0 → (∀ d, d < m → ¬ kw (r * 60 + d) = 0 → dn d = 0 → sl c ≤ sl d) → post (nI c)) :
    wpY_earliest post (nI m, sk, og, st, mv, nd, ar, kw, pa, la, dn, oq, ol) (nI r) :=
  ⟨m + 1, mt_Y_e4 h hr post hN hY m 0 (m + 1) (-1) (by omega) (by omega) (Or.inl ⟨rfl, fun c hc => by omega⟩)⟩
end
end
section
section
variable {m : Nat} {sl : Nat → Nat} {iv cn op kn og st mv nd ar kw : Nat → Int32} {oq ol : Nat → Int32}
-- one change carried out; J: what follows
theorem mt_Y_one {sk : Int32} {pa la dn : Nat → Int32} {c i : Nat} (hc : c < 60) (hv : mt_v (mv c) (nd c) (ar c)) {T : mt_T} (hT : mt_VY pa la sk T) (ho : ∀ n, n < 10 → mt_ok (T.1 n)) (post : Int32 → SY → Prop)
    (J : Int32 → Int32 → Int32 → (Nat → Int32) → (Nat → Int32) → (Nat → Int32) → (Nat → Int32) → (Nat → Int32) → (Nat → Int32) → (Nat → Int32) → (Nat → Int32) → (Nat → Int32) → (Nat → Int32) → (Nat → Int32) → Prop) (x1 x2 x3 : Int32) (md : Int32)
    (H : ∀ (x3' sk' : Int32) (pa' la' : Nat → Int32), mt_VY pa' la' sk' (mt_ap (mv c) (nd c) (ar c) T) → ((mt_an (mv c) (nd c) (ar c) T = 0 ∨ nI c ≠ x2) → x3' = x3) → (mt_an (mv c) (nd c) (ar c) T ≠ 0 → nI c = x2 → x3' = 1) → J x3' (nI (i + 1)) sk' og st mv nd ar kw pa' la' dn oq ol) :
    vp_in (nI c) 60 ∧ ((((mv (nI c).toNatClampNeg) = 0 → (wY_carryOut_130 post J x1 x2 x3 (nI i) (nI c) md sk og st mv nd ar kw pa la dn oq ol)) ∧ (¬ (mv (nI c).toNatClampNeg) = 0 → (vp_in (nI c) 60 ∧ (vp_in (nI c) 60 ∧ (wpY_above (fun r_46 => (((r_46 = 0 → (wY_carryOut_130 post J x1 x2 x3 (nI i) (nI c) md sk og st mv nd ar kw pa la dn oq ol)) ∧ (¬ r_46 = 0 → (wY_carryOut_131 post J x1 x2 x3 (nI i) (nI c) 1 md sk og st mv nd ar kw pa la dn oq ol))))) (md, sk, og, st, mv, nd, ar, kw, pa, la, dn, oq, ol) (nd (nI c).toNatClampNeg) (ar (nI c).toNatClampNeg))))))) := by
  obtain ⟨⟨j, hj, ej⟩, hm⟩ := hv
  have i6 : vp_in (nI c) 60 := vp_in_nI hc (by decide)
  have e : (nI c).toNatClampNeg = c := mt_cl (by omega)
  have ix : vp_in (nd (nI c).toNatClampNeg) 10 := by rw [e, ej]; exact vp_in_nI hj (by decide)
  have ex : (nd (nI c).toNatClampNeg).toNatClampNeg = j := by rw [e, ej]; exact mt_cl (by omega)
  have ea : ar (nI c).toNatClampNeg = ar c := by rw [e]
  unfold mt_ap mt_an at H
  rw [ej, mt_cl (by omega : j < 1000)] at H
  refine ⟨i6, ?_⟩
  by_cases z : mv c = 0
  · have z' : mv (nI c).toNatClampNeg = 0 := by rw [e]; exact z
    rw [if_pos z, if_pos z] at H
    refine br_t z' ?_
    unfold wY_carryOut_130 wY_carryOut_131
    refine br_t rfl ?_
    unfold wY_carryOut_148
    refine br_t rfl ?_
    unfold wY_carryOut_161
    refine ⟨i6, br_t z' ?_⟩
    unfold wY_carryOut_195
    refine ⟨i6, br_t z' ⟨i6, i6, ix, nm_r (by rw [ex, ea]) (nm_r (nI_1 i) ?_)⟩⟩
    refine H x3 _ _ _ ⟨fun n hn => ⟨(hT.1 n hn).1, mt_upd1 (fun n hn => (hT.1 n hn).2) n hn⟩, hT.2⟩ (fun _ => rfl) (fun q => absurd rfl q)
  · have z' : ¬ mv (nI c).toNatClampNeg = 0 := by rw [e]; exact z
    rw [if_neg z, if_neg z] at H
    obtain ⟨q, hq, eq⟩ := hm z
    refine br_f z' ⟨i6, i6, ?_⟩
    rw [e, ej]
    unfold wpY_above
    dsimp only
    refine ⟨11, mt_Y_ab (fun n hn => (hT.1 n hn).1) ho (nI j) _ 10 0 11 (ar c) rfl (by decide) (Or.inr ⟨q, hq, eq⟩) ?_⟩
    rcases mt_ab01 T.1 (nI j) 10 (ar c) with y | y
    · rw [y] at H ⊢
      rw [if_pos rfl] at H
      refine br_t rfl ?_
      unfold wY_carryOut_130 wY_carryOut_131
      refine br_t rfl ?_
      unfold wY_carryOut_148
      refine br_t rfl ?_
      unfold wY_carryOut_161
      refine ⟨i6, br_f z' (br_t rfl ⟨i6, i6, ix, nm_r (by rw [ex, ea]) ?_⟩)⟩
      unfold wY_carryOut_195
      refine ⟨i6, br_f z' (nm_r (nI_1 i) ?_)⟩
      refine H x3 _ _ _ ⟨fun n hn => ⟨mt_upd1 (fun n hn => (hT.1 n hn).1) n hn, (hT.1 n hn).2⟩, hT.2⟩ (fun _ => rfl) (fun q => absurd rfl q)
    · rw [y] at H ⊢
      rw [if_neg (by decide)] at H
      refine br_f (by decide) ?_
      unfold wY_carryOut_131
      refine br_f (by decide) (nm_e ?_)
      have hV : mt_VY pa la (sk + 1) (T.1, T.2.1, T.2.2 + 1) := ⟨hT.1, by rw [hT.2]⟩
      have last : ∀ x3' : Int32, ((nI c ≠ x2) → x3' = x3) → (nI c = x2 → x3' = 1) → wY_carryOut_161 post J x1 x2 x3' (nI i) (nI c) 1 md (sk + 1) og st mv nd ar kw pa la dn oq ol := by
        intro x3' g1 g2
        unfold wY_carryOut_161
        refine ⟨i6, br_f z' (br_f (by decide) ?_)⟩
        unfold wY_carryOut_195
        refine ⟨i6, br_f z' (nm_r (nI_1 i) ?_)⟩
        exact H x3' _ _ _ hV (fun w => w.elim (fun w => absurd w (by decide)) g1) (fun _ => g2)
      unfold wY_carryOut_148
      refine br_f (by decide) (br_c (fun w => last 1 (fun k => absurd w k) (fun _ => rfl)) (fun w => last x3 (fun _ => rfl) (fun k => absurd k w)))
-- the whole replay
theorem mt_Y_66 (h : mt_core m sl iv cn op kn og st mv nd ar kw) {r : Nat} (hr : r < 3) (x2 : Int32) (post : Int32 → SY → Prop)
    (H : ∀ (x3 sk : Int32) (pa la dn : Nat → Int32), mt_VY pa la sk (mt_rp iv cn op kn r 180) → (x3 = 0 ∨ x3 = 1) → (∀ c, c < m → x2 = nI c → ¬ kw (r * 60 + c) = 0 → ¬ mv c = 0 → x3 = mt_ab (mt_rp iv cn op kn r (sl c)).1 (nd c) 10 (ar c)) → post x3 (nI m, sk, og, st, mv, nd, ar, kw, pa, la, dn, oq, ol)) :
    ∀ (d i n S : Nat) (x3 sk : Int32) (pa la dn : Nat → Int32), i + d = m → d < n → S ≤ 180 → mt_VY pa la sk (mt_rp iv cn op kn r S)
      → (∀ c, c < m → ¬ kw (r * 60 + c) = 0 → (¬ dn c = 0 ↔ sl c < S))
      → (i ≤ mt_ct dn m ∨ ∀ c, c < m → ¬ kw (r * 60 + c) = 0 → ¬ dn c = 0)
      → (x3 = 0 ∨ x3 = 1)
      → (∀ c, c < m → x2 = nI c → ¬ kw (r * 60 + c) = 0 → ¬ mv c = 0 → (dn c = 0 → x3 = 0) ∧ (¬ dn c = 0 → x3 = mt_ab (mt_rp iv cn op kn r (sl c)).1 (nd c) 10 (ar c)))
      → wY_carryOut_66 post (nI r) x2 (nI m) n x3 (nI i) sk og st mv nd ar kw pa la dn oq ol := by
  have hm := h.1
  intro d
  induction d with
  | zero =>
    intro i n S x3 sk pa la dn hi hn hS hV hD hN hb hA
    obtain ⟨n, rfl⟩ : ∃ k, n = k + 1 := ⟨n - 1, by omega⟩
    obtain rfl : i = m := by omega
    refine br_t (nI_le (by omega) (by omega)) ⟨mt_nb hb, ?_⟩
    have all : ∀ c, c < i → ¬ kw (r * 60 + c) = 0 → ¬ dn c = 0 := by
      rcases hN with g | g
      · exact fun c hc _ => mt_ct_all dn i g c hc
      · exact g
    refine H x3 sk pa la dn ?_ hb (fun c hc e k y => (hA c hc e k y).2 (all c hc k))
    rw [mt_rp_gap' hS (fun s h1 h2 => ?_)]
    · exact hV
    · by_cases z : kn (r * 180 + s) = 0
      · exact z
      · obtain ⟨c, hc, es, k⟩ := (h.2.2.2.2.2.1 r s hr h2).mp z
        have := (hD c hc k).mp (all c hc k)
        omega
  | succ d ih =>
    intro i n S x3 sk pa la dn hi hn hS hV hD hN hb hA
    obtain ⟨n, rfl⟩ : ∃ k, n = k + 1 := ⟨n - 1, by omega⟩
    refine br_f (nI_ge (by omega) (by omega)) ?_
    refine mt_Y_es h hr _ (fun none => ?_) (fun c hc kc zc min => ?_)
    · exact br_t (by decide) (nm_r (nI_1 i) (ih (i + 1) n S x3 sk pa la dn (by omega) (by omega) hS hV hD (Or.inr none) hb hA))
    · have hc60 : c < 60 := by omega
      have hsl := mt_core_sl h hc
      have Sle : S ≤ sl c := by
        by_cases g : sl c < S
        · exact absurd zc ((hD c hc kc).mpr g)
        · omega
      have egap : mt_rp iv cn op kn r (sl c) = mt_rp iv cn op kn r S := by
        refine mt_rp_gap' Sle (fun s h1 h2 => ?_)
        by_cases z : kn (r * 180 + s) = 0
        · exact z
        · obtain ⟨e, he, es, k⟩ := (h.2.2.2.2.2.1 r s hr (by omega)).mp z
          have ze : dn e = 0 := by
            by_cases g : dn e = 0
            · exact g
            · have := (hD e he k).mp g; omega
          have := min e he k ze
          omega
      obtain ⟨a1, a2, a3, hv⟩ := h.2.2.1 c hc
      have estep : mt_rp iv cn op kn r (sl c + 1) = mt_ap (mv c) (nd c) (ar c) (mt_rp iv cn op kn r S) := by
        rw [mt_rp_y ((mt_core_kn h hr hc).mpr kc), egap, a1, a2, a3]
      refine br_f (nI_pos (by omega)) ⟨vp_in_nI hc60 (by decide), nm_r (by rw [mt_cl (by omega), mt_b1]) ?_⟩
      refine mt_Y_one hc60 hv hV (mt_core_ok h hr hS) post _ (nI r) x2 x3 (nI m) ?_
      intro x3' sk' pa' la' hV' g1 g2
      refine ih (i + 1) n (sl c + 1) x3' sk' pa' la' (upd dn c 1) (by omega) (by omega) (by omega) (by rw [estep]; exact hV') (fun e he k => ?_) ?_ ?_ (fun e he ee k y => ?_)
      · by_cases q : e = c
        · rw [q, pk_us]; exact ⟨fun _ => by omega, fun _ => by decide⟩
        · rw [pk_un q]
          refine ⟨fun g => ?_, fun g => ?_⟩
          · have := (hD e he k).mp g; omega
          · intro ze
            have l := min e he k ze
            exact q (mt_core_inj h he hc (by omega))
      · rcases hN with g | g
        · exact Or.inl (by rw [mt_ct_upd dn c 1 zc (by decide) m hc]; omega)
        · exact absurd zc (g c hc kc)
      · by_cases w : mt_an (mv c) (nd c) (ar c) (mt_rp iv cn op kn r S) = 0 ∨ nI c ≠ x2
        · rw [g1 w]; exact hb
        · refine Or.inr (g2 (fun k => w (Or.inl k)) ?_)
          by_cases k : nI c = x2
          · exact k
          · exact absurd (Or.inr k) w
      · by_cases q : e = c
        · subst q
          rw [pk_us, egap]
          refine ⟨fun k => absurd k (by decide), fun _ => ?_⟩
          have an : mt_an (mv e) (nd e) (ar e) (mt_rp iv cn op kn r S) = mt_ab (mt_rp iv cn op kn r S).1 (nd e) 10 (ar e) := by
            rw [mt_an, if_neg y]
          rw [← an]
          rcases mt_ab01 (mt_rp iv cn op kn r S).1 (nd e) 10 (ar e) with w | w
          · rw [g1 (Or.inl (an.trans w)), an, w]
            exact (hA e he ee k y).1 zc
          · rw [g2 (by rw [an, w]; decide) ee.symm, an, w]
        · have ne : nI c ≠ x2 := by
            intro k
            rw [ee, nI_eq (by omega) (by omega)] at k
            exact q k.symm
          rw [pk_un q, g1 (Or.inr ne)]
          exact hA e he ee k y
theorem mt_Y_34 {x1 x2 x3 md sk : Int32} {dn : Nat → Int32} (post : Int32 → SY → Prop)
    (H : ∀ pa la : Nat → Int32, mt_VY pa la 0 mt_t0 → ∃ n66 : Nat, wY_carryOut_66 post x1 x2 md n66 x3 0 sk og st mv nd ar kw pa la dn oq ol) :
    ∀ (d i n : Nat) (pa la : Nat → Int32), i + d = 10 → d < n → (∀ k, k < i → pa k = -1 ∧ la k = 0) → wY_carryOut_34 post x1 x2 x3 md sk n (nI i) og st mv nd ar kw pa la dn oq ol := by
  intro d
  induction d with
  | zero =>
    intro i n pa la hi hn hz
    obtain ⟨n, rfl⟩ : ∃ k, n = k + 1 := ⟨n - 1, by omega⟩
    exact br_t (nI_le (a := 10) (by omega) (by omega)) (H pa la ⟨fun n hn => hz n (by omega), rfl⟩)
  | succ d ih =>
    intro i n pa la hi hn hz
    obtain ⟨n, rfl⟩ : ∃ k, n = k + 1 := ⟨n - 1, by omega⟩
    have i1 : vp_in (nI i) 10 := vp_in_nI (by omega) (by decide)
    refine br_f (nI_ge (b := 10) (by omega) (by decide)) ⟨i1, nm_r (by rw [mt_cl (by omega)]) ⟨i1, nm_r (by rw [mt_cl (by omega)]) (nm_r (nI_1 i) ?_)⟩⟩
    refine ih (i + 1) n _ _ (by omega) (by omega) (fun k hk => ?_)
    by_cases e : k = i
    · rw [e, pk_us, pk_us]; exact ⟨rfl, rfl⟩
    · rw [pk_un e, pk_un e]; exact hz k (by omega)
theorem mt_Y_10 {x1 x2 x3 md sk : Int32} {pa la : Nat → Int32} (post : Int32 → SY → Prop)
    (H : ∀ dn : Nat → Int32, (∀ c, c < 60 → dn c = 0) → ∃ n34 : Nat, wY_carryOut_34 post x1 x2 x3 md sk n34 0 og st mv nd ar kw pa la dn oq ol) :
    ∀ (d i n : Nat) (dn : Nat → Int32), i + d = 60 → d < n → (∀ k, k < i → dn k = 0) → wY_carryOut_10 post x1 x2 x3 md sk n (nI i) og st mv nd ar kw pa la dn oq ol := by
  intro d
  induction d with
  | zero =>
    intro i n dn hi hn hz
    obtain ⟨n, rfl⟩ : ∃ k, n = k + 1 := ⟨n - 1, by omega⟩
    exact br_t (nI_le (a := 60) (by omega) (by omega)) (H dn (fun c hc => hz c (by omega)))
  | succ d ih =>
    intro i n dn hi hn hz
    obtain ⟨n, rfl⟩ : ∃ k, n = k + 1 := ⟨n - 1, by omega⟩
    refine br_f (nI_ge (b := 60) (by omega) (by decide)) ⟨vp_in_nI (by omega) (by decide), nm_r (by rw [mt_cl (by omega), mt_b0]) (nm_r (nI_1 i) ?_)⟩
    refine ih (i + 1) n _ (by omega) (by omega) (fun k hk => ?_)
    by_cases e : k = i
    · rw [e, pk_us]
    · rw [pk_un e]; exact hz k (by omega)
theorem mt_Y_co (h : mt_core m sl iv cn op kn og st mv nd ar kw) {sk : Int32} {pa la dn : Nat → Int32} {r : Nat} (hr : r < 3) (x2 : Int32) (post : Int32 → SY → Prop)
    (H : ∀ (x3 sk : Int32) (pa la dn : Nat → Int32), mt_VY pa la sk (mt_rp iv cn op kn r 180) → (x3 = 0 ∨ x3 = 1) → (∀ c, c < m → x2 = nI c → ¬ kw (r * 60 + c) = 0 → ¬ mv c = 0 → x3 = mt_ab (mt_rp iv cn op kn r (sl c)).1 (nd c) 10 (ar c)) → post x3 (nI m, sk, og, st, mv, nd, ar, kw, pa, la, dn, oq, ol)) :
    wpY_carryOut post (nI m, sk, og, st, mv, nd, ar, kw, pa, la, dn, oq, ol) (nI r) x2 := by
  refine ⟨61, mt_Y_10 post (fun dn hd => ?_) 60 0 61 dn rfl (by decide) (fun k hk => by omega)⟩
  refine ⟨11, mt_Y_34 post (fun pa la hV => ?_) 10 0 11 pa la rfl (by decide) (fun k hk => by omega)⟩
  have hm := h.1
  refine ⟨m + 1, mt_Y_66 h hr x2 post H m 0 (m + 1) 0 0 0 pa la dn (by omega) (by omega) (by omega) hV (fun c hc k => ?_) (Or.inl (Nat.zero_le _)) (Or.inl rfl) (fun c hc e k y => ⟨fun _ => rfl, fun g => absurd (hd c (by omega)) g⟩)⟩
  exact ⟨fun g => absurd (hd c (by omega)) g, fun g => by omega⟩
end
end
section
section
variable {m : Nat} {sl : Nat → Nat} {iv cn op kn og st mv nd ar kw : Nat → Int32} {sk : Int32} {pa la dn oq ol : Nat → Int32}
theorem mt_q_bd (h : mt_core m sl iv cn op kn og st mv nd ar kw) {r i p : Nat} (hi : i ≤ m) (hp : mt_q i sl kw r p) : p ≤ 60 := by
  have hm := h.1
  rcases hp.2 with e | ⟨c, hc, _, e⟩
  · omega
  · have := (h.2.1 c (by omega)).2.2; omega
theorem mt_Y_m6 (h : mt_core m sl iv cn op kn og st mv nd ar kw) {r q : Nat} (hr : r < 3) (hm : m < 60) (hq : mt_q m sl kw r q) {b x y : Int32} (post : Int32 → SY → Prop)
    (H : post (nI m) (nI (m + 1), sk, upd og m (nI r), upd st m (nI (q + 1)), upd mv m (vp_nar .boolean b), upd nd m x, upd ar m y, upd kw (r * 60 + m) 1, pa, la, dn, oq, ol)) :
    ∀ (d i n p : Nat), i + d = m → d < n → mt_q i sl kw r p → wY_make_6 post (nI r) b x y (nI m) sk og st mv nd ar kw pa la dn oq ol n (nI p) (nI i) := by
  intro d
  induction d with
  | zero =>
    intro i n p hi hn hp
    obtain ⟨n, rfl⟩ : ∃ k, n = k + 1 := ⟨n - 1, by omega⟩
    obtain rfl : i = m := by omega
    obtain rfl : p = q := mt_q_uniq hq hp
    have i1 : vp_in (nI i) 60 := vp_in_nI hm (by decide)
    have e1 : (nI i).toNatClampNeg = i := mt_cl (by omega)
    refine br_t (nI_le (Nat.le_refl i) (by omega)) ?_
    refine ⟨i1, nm_r (by rw [e1]) ⟨i1, nm_r (by rw [e1, nI_1]) ⟨i1, nm_r (by rw [e1]) ⟨i1, nm_r (by rw [e1]) ⟨i1, nm_r (by rw [e1]) ⟨mt_in60 hr hm, nm_r (by rw [mt_c60 hr hm, mt_b1]) (nm_r (nI_1 i) ?_)⟩⟩⟩⟩⟩⟩
    rw [nI_pred]
    exact H
  | succ d ih =>
    intro i n p hi hn hp
    obtain ⟨n, rfl⟩ : ∃ k, n = k + 1 := ⟨n - 1, by omega⟩
    have hi2 : i < m := by omega
    have hpb := mt_q_bd h (by omega) hp
    obtain ⟨_, a2, a3⟩ := h.2.1 i hi2
    have i1 : vp_in (nI i) 60 := vp_in_nI (by omega) (by decide)
    refine br_f (nI_ge hi2 (by omega)) ⟨mt_in60 hr (by omega), ?_⟩
    rw [mt_c60 hr (by omega)]
    by_cases z : kw (r * 60 + i) = 0
    · refine br_t z (nm_r (nI_1 i) (ih (i + 1) n p (by omega) (by omega) ⟨fun c hc k => ?_, hp.2.imp id (fun ⟨c, hc, k⟩ => ⟨c, by omega, k⟩)⟩))
      by_cases e : c = i
      · rw [e] at k; exact absurd z k
      · exact hp.1 c (by omega) k
    · refine br_f z ⟨i1, ?_⟩
      rw [mt_cl (by omega), a2]
      refine pk_le (sl i / 3 + 1) p (fun l => nm_r (nI_1 i) (ih (i + 1) n p (by omega) (by omega) ⟨fun c hc k => ?_, hp.2.imp id (fun ⟨c, hc, k⟩ => ⟨c, by omega, k⟩)⟩)) (fun l => ⟨i1, nm_e (nm_r (nI_1 i) (ih (i + 1) n (sl i / 3 + 1) (by omega) (by omega) ⟨fun c hc k => ?_, Or.inr ⟨i, by omega, z, rfl⟩⟩))⟩)
      · by_cases e : c = i
        · rw [e]; exact l
        · exact hp.1 c (by omega) k
      · by_cases e : c = i
        · rw [e]; exact Nat.le_refl _
        · have := hp.1 c (by omega) k; omega
theorem mt_Y_mk (h : mt_core m sl iv cn op kn og st mv nd ar kw) {r q : Nat} (hr : r < 3) (hm : m < 60) (hq : mt_q m sl kw r q) {b x y : Int32} (post : Int32 → SY → Prop)
    (H : post (nI m) (nI (m + 1), sk, upd og m (nI r), upd st m (nI (q + 1)), upd mv m (vp_nar .boolean b), upd nd m x, upd ar m y, upd kw (r * 60 + m) 1, pa, la, dn, oq, ol)) :
    wpY_make post (nI m, sk, og, st, mv, nd, ar, kw, pa, la, dn, oq, ol) (nI r) b x y :=
  ⟨m + 1, mt_Y_m6 h hr hm hq post H m 0 (m + 1) 0 (by omega) (by omega) ⟨fun c hc => by omega, Or.inl rfl⟩⟩
theorem mt_Y_sk (h : mt_core m sl iv cn op kn og st mv nd ar kw) {r : Nat} (hr : r < 3) (post : Int32 → SY → Prop)
    (H : ∀ (sk : Int32) (pa la dn : Nat → Int32), mt_VY pa la sk (mt_rp iv cn op kn r 180) → post sk (nI m, sk, og, st, mv, nd, ar, kw, pa, la, dn, oq, ol)) :
    wpY_skipped post (nI m, sk, og, st, mv, nd, ar, kw, pa, la, dn, oq, ol) (nI r) := by
  unfold wpY_skipped
  dsimp only
  refine mt_Yr_t hr (br_t rfl ?_)
  exact mt_Y_co h hr (-1) _ (fun x3 sk pa la dn hV _ _ => H sk pa la dn hV)
theorem mt_Y_dl (h : mt_core m sl iv cn op kn og st mv nd ar kw) {f t : Nat} (hf : f < 3) (ht : t < 3) (post : Int32 → SY → Prop)
    (hN : (∀ c, c < m → sl c % 3 = f → ¬ kw (t * 60 + c) = 0) → post (-1) (nI m, sk, og, st, mv, nd, ar, kw, pa, la, dn, oq, ol))
    (hY : ∀ c, c < m → sl c % 3 = f → kw (t * 60 + c) = 0 → (∀ d, d < c → sl d % 3 = f → ¬ kw (t * 60 + d) = 0) → ∃ kn' : Nat → Int32, mt_core m sl iv cn op kn' og st mv nd ar (upd kw (t * 60 + c) 1) ∧ ∀ (sk : Int32) (pa la dn : Nat → Int32), mt_VY pa la sk (mt_rp iv cn op kn' t 180) → post sk (nI m, sk, og, st, mv, nd, ar, upd kw (t * 60 + c) 1, pa, la, dn, oq, ol)) :
    ∀ (d i n : Nat), i + d = m → d < n → (∀ c, c < i → sl c % 3 = f → ¬ kw (t * 60 + c) = 0) → wY_deliver_18 post (nI f) (nI t) (nI m) sk og st mv nd ar kw pa la dn oq ol n (nI i) := by
  have hm := h.1
  intro d
  induction d with
  | zero =>
    intro i n hi hn hz
    obtain ⟨n, rfl⟩ : ∃ k, n = k + 1 := ⟨n - 1, by omega⟩
    obtain rfl : i = m := by omega
    exact br_t (nI_le (Nat.le_refl i) (by omega)) (hN hz)
  | succ d ih =>
    intro i n hi hn hz
    obtain ⟨n, rfl⟩ : ∃ k, n = k + 1 := ⟨n - 1, by omega⟩
    have hi2 : i < m := by omega
    obtain ⟨a1, _, _⟩ := h.2.1 i hi2
    have go : (sl i % 3 = f → ¬ kw (t * 60 + i) = 0) → wY_deliver_18 post (nI f) (nI t) (nI m) sk og st mv nd ar kw pa la dn oq ol n (nI (i + 1)) := by
      intro g
      refine ih (i + 1) n (by omega) (by omega) (fun c hc => ?_)
      by_cases e : c = i
      · rw [e]; exact g
      · exact hz c (by omega)
    refine br_f (nI_ge hi2 (by omega)) ⟨vp_in_nI (by omega) (by decide), ?_⟩
    rw [mt_cl (by omega), a1, mt_c60 ht (by omega)]
    refine pk_eq (sl i % 3) f (fun e => ⟨mt_in60 ht (by omega), ?_⟩) (fun e => nm_r (nI_1 i) (go (fun k => absurd k e)))
    by_cases z : kw (t * 60 + i) = 0
    · refine br_t z ⟨mt_in60 ht (by omega), nm_r (by rw [mt_b1]) ?_⟩
      obtain ⟨kn', hc, H⟩ := hY i hi2 e z hz
      exact mt_Y_sk hc ht _ H
    · exact br_f z (nm_r (nI_1 i) (go (fun _ => z)))
theorem mt_Y_sy {f t : Nat} (hf : f < 3) (ht : t < 3) (hm : m ≤ 60) (kw0 : Nat → Int32) (post : Int32 → SY → Prop)
    (H : post (nI (mt_sy (f * 60) (t * 60) kw0 m).2) (nI m, sk, og, st, mv, nd, ar, (mt_sy (f * 60) (t * 60) kw0 m).1, pa, la, dn, oq, ol)) :
    ∀ (d i n : Nat), i + d = m → d < n → wY_sync_21 post (nI f) (nI t) (nI m) sk n (nI (mt_sy (f * 60) (t * 60) kw0 i).2) (nI i) og st mv nd ar (mt_sy (f * 60) (t * 60) kw0 i).1 pa la dn oq ol := by
  intro d
  induction d with
  | zero =>
    intro i n hi hn
    obtain ⟨n, rfl⟩ : ∃ k, n = k + 1 := ⟨n - 1, by omega⟩
    obtain rfl : i = m := by omega
    exact br_t (nI_le (Nat.le_refl i) (by omega)) H
  | succ d ih =>
    intro i n hi hn
    obtain ⟨n, rfl⟩ : ∃ k, n = k + 1 := ⟨n - 1, by omega⟩
    have hi6 : i < 60 := by omega
    have g := ih (i + 1) n (by omega) (by omega)
    refine br_f (nI_ge (by omega) (by omega)) ⟨mt_in60 hf hi6, ?_⟩
    rw [mt_c60 hf hi6, mt_c60 ht hi6]
    by_cases z : (mt_sy (f * 60) (t * 60) kw0 i).1 (f * 60 + i) = 0
    · rw [mt_sy, if_pos z] at g
      exact br_t z (nm_r (nI_1 i) g)
    · refine br_f z ⟨mt_in60 ht hi6, ?_⟩
      by_cases y : (mt_sy (f * 60) (t * 60) kw0 i).1 (t * 60 + i) = 0
      · rw [mt_sy, if_neg z, if_pos y] at g
        exact br_t y ⟨mt_in60 ht hi6, nm_r (by rw [mt_b1]) (nm_r (nI_1 _) (nm_r (nI_1 i) g))⟩
      · rw [mt_sy, if_neg z, if_neg y] at g
        exact br_f y (nm_r (nI_1 i) g)
-- learning one change; learning all of another's
theorem mt_core_ln (h : mt_core m sl iv cn op kn og st mv nd ar kw) {t c : Nat} (ht : t < 3) (hc : c < m) : mt_core m sl iv cn op (upd kn (t * 180 + sl c) 1) og st mv nd ar (upd kw (t * 60 + c) 1) := by
  have hsl := mt_core_sl h hc
  have inj := fun d hd => mt_core_inj h (c := d) (d := c) hd hc
  have sld := fun d hd => mt_core_sl h (c := d) hd
  obtain ⟨h1, h2, h3, h4, h5, h6, h7⟩ := h
  refine ⟨h1, h2, h3, fun d hd => ?_, h5, fun r s hr hs => ?_, fun r d hr hd hd' => ?_⟩
  · by_cases e : sl d % 3 * 60 + d = t * 60 + c
    · rw [e, pk_us]; decide
    · rw [pk_un e]; exact h4 d hd
  · by_cases e : r * 180 + s = t * 180 + sl c
    · have er : r = t := by omega
      have es : sl c = s := by omega
      rw [e, pk_us]
      refine ⟨fun _ => ⟨c, hc, es, ?_⟩, fun _ => by decide⟩
      rw [er, pk_us]; decide
    · rw [pk_un e, h6 r s hr hs]
      refine ⟨fun ⟨d, hd, es, k⟩ => ⟨d, hd, es, ?_⟩, fun ⟨d, hd, es, k⟩ => ⟨d, hd, es, ?_⟩⟩
      · by_cases q : r * 60 + d = t * 60 + c
        · rw [q, pk_us]; decide
        · rw [pk_un q]; exact k
      · by_cases q : r * 60 + d = t * 60 + c
        · have er : r = t := by omega
          have ed : d = c := by omega
          subst er ed es
          exact absurd rfl e
        · rw [pk_un q] at k; exact k
  · rw [pk_un (by omega)]; exact h7 r d hr hd hd'
theorem mt_or {a b : Int32} : ¬ (a = 0 ∧ b = 0) ↔ (¬ a = 0 ∨ ¬ b = 0) := by
  by_cases h : a = 0
  · by_cases g : b = 0
    · exact ⟨fun k => absurd ⟨h, g⟩ k, fun k => k.elim (fun k => absurd h k) (fun k => absurd g k)⟩
    · exact ⟨fun _ => Or.inr g, fun _ k => g k.2⟩
  · exact ⟨fun _ => Or.inl h, fun _ k => h k.1⟩
theorem mt_core_sy (h : mt_core m sl iv cn op kn og st mv nd ar kw) {f t : Nat} (hf : f < 3) (ht : t < 3) : mt_core m sl iv cn op (mt_sy (f * 180) (t * 180) kn 180).1 og st mv nd ar (mt_sy (f * 60) (t * 60) kw m).1 := by
  obtain ⟨h1, h2, h3, h4, h5, h6, h7⟩ := h
  obtain ⟨x1, x2, _⟩ := mt_sy_spec (A := f * 180) (B := t * 180) (w := 180) (a := kn) (by omega) 180 (by omega)
  obtain ⟨y1, y2, _⟩ := mt_sy_spec (A := f * 60) (B := t * 60) (w := 60) (a := kw) (by omega) m h1
  have y1' : ∀ r c, r ≠ t → c < 60 → (mt_sy (f * 60) (t * 60) kw m).1 (r * 60 + c) = kw (r * 60 + c) := fun r c hr hc => y1 _ (fun s hs => by omega)
  have y2' : ∀ c, c < m → (¬ (mt_sy (f * 60) (t * 60) kw m).1 (t * 60 + c) = 0 ↔ (¬ kw (t * 60 + c) = 0 ∨ ¬ kw (f * 60 + c) = 0)) := fun c hc => by rw [y2 c hc, mt_or]
  refine ⟨h1, h2, h3, fun d hd => ?_, h5, fun r s hr hs => ?_, fun r d hr hd hd' => ?_⟩
  · by_cases e : sl d % 3 = t
    · have k := h4 d hd
      rw [e] at k ⊢
      exact (y2' d hd).mpr (Or.inl k)
    · rw [y1' _ _ e (by omega)]; exact h4 d hd
  · by_cases e : r = t
    · subst e
      rw [x2 s hs, mt_or, h6 r s hr hs, h6 f s hf hs]
      refine ⟨fun g => ?_, fun ⟨c, hc, es, k⟩ => ?_⟩
      · rcases g with ⟨c, hc, es, k⟩ | ⟨c, hc, es, k⟩
        · exact ⟨c, hc, es, (y2' c hc).mpr (Or.inl k)⟩
        · exact ⟨c, hc, es, (y2' c hc).mpr (Or.inr k)⟩
      · rcases (y2' c hc).mp k with k | k
        · exact Or.inl ⟨c, hc, es, k⟩
        · exact Or.inr ⟨c, hc, es, k⟩
    · rw [x1 (r * 180 + s) (fun s' hs' => by omega), h6 r s hr hs]
      refine ⟨fun ⟨c, hc, es, k⟩ => ⟨c, hc, es, ?_⟩, fun ⟨c, hc, es, k⟩ => ⟨c, hc, es, ?_⟩⟩
      · rw [y1' r c e (by omega)]; exact k
      · rw [y1' r c e (by omega)] at k; exact k
  · rw [y1 (r * 60 + d) (fun s hs => by omega)]; exact h7 r d hr hd hd'
theorem mt_mi_ne {A B s : Nat} {a : Nat → Int32} : ¬ mt_mi A B a s = 0 ↔ (¬ a (A + s) = 0 ∧ a (B + s) = 0) := by
  unfold mt_mi
  by_cases z : a (A + s) = 0
  · rw [if_pos z]; exact ⟨fun k => absurd rfl k, fun k => absurd z k.1⟩
  · rw [if_neg z]
    by_cases y : a (B + s) = 0
    · rw [if_pos y]; exact ⟨fun _ => ⟨z, y⟩, fun _ => by decide⟩
    · rw [if_neg y]; exact ⟨fun k => absurd rfl k, fun k => absurd k.2 y⟩
theorem mt_sy_ct (h : mt_core m sl iv cn op kn og st mv nd ar kw) {f t : Nat} (hf : f < 3) (ht : t < 3) : (mt_sy (f * 180) (t * 180) kn 180).2 = (mt_sy (f * 60) (t * 60) kw m).2 := by
  rw [(mt_sy_spec (A := f * 180) (B := t * 180) (w := 180) (a := kn) (by omega) 180 (by omega)).2.2, (mt_sy_spec (A := f * 60) (B := t * 60) (w := 60) (a := kw) (by omega) m h.1).2.2]
  refine mt_ct_bij _ sl 180 m _ (fun c hc => mt_core_sl h hc) (fun c d hc hd => mt_core_inj h hc hd) (fun s hs => ?_)
  rw [mt_mi_ne]
  refine ⟨fun ⟨a, b⟩ => ?_, fun ⟨c, hc, es, k⟩ => ?_⟩
  · obtain ⟨c, hc, es, k⟩ := (h.2.2.2.2.2.1 f s hf hs).mp a
    refine ⟨c, hc, es, mt_mi_ne.mpr ⟨k, ?_⟩⟩
    by_cases z : kw (t * 60 + c) = 0
    · exact z
    · have := (mt_core_kn h ht hc).mpr z
      rw [es] at this
      exact absurd b this
  · obtain ⟨k1, k2⟩ := mt_mi_ne.mp k
    rw [← es]
    refine ⟨(mt_core_kn h hf hc).mpr k1, ?_⟩
    by_cases z : kn (t * 180 + sl c) = 0
    · exact z
    · exact absurd k2 ((mt_core_kn h ht hc).mp z)
-- the replays of the others stay
theorem mt_rp_keep {kn' : Nat → Int32} {r : Nat} (h : ∀ s, s < 180 → kn' (r * 180 + s) = kn (r * 180 + s)) : mt_rp iv cn op kn' r 180 = mt_rp iv cn op kn r 180 :=
  mt_rp_cong 180 (fun s hs => by rw [h s hs]) (fun _ _ _ => ⟨rfl, rfl, rfl⟩)
end
end
section
-- children
def mt_ch (p : Nat → Int32) (x : Int32) : Nat → Nat
  | 0 => 0
  | n + 1 => if p n = x then mt_ch p x n + 1 else mt_ch p x n
section
variable {cm : Int32} {iv cn op kn sp sb sm : Nat → Int32} {md sk : Int32} {og st mv nd ar kw pa la dn oq ol : Nat → Int32}
theorem mt_X_ch {r : Nat} (hr : r < 3) {p : Nat → Int32} (hp : ∀ n, n < 10 → sp (r * 10 + n) = p n) (x : Int32) (post : Int32 → Prop) (H : post (nI (mt_ch p x 10))) :
    ∀ (d i n : Nat), i + d = 10 → d < n → wX_children_21 post (nI r) x cm iv cn op kn sp sb sm n (nI (mt_ch p x i)) (nI i) := by
  intro d
  induction d with
  | zero =>
    intro i n hi hn
    obtain ⟨n, rfl⟩ : ∃ k, n = k + 1 := ⟨n - 1, by omega⟩
    obtain rfl : i = 10 := by omega
    exact br_t (by decide) H
  | succ d ih =>
    intro i n hi hn
    obtain ⟨n, rfl⟩ : ∃ k, n = k + 1 := ⟨n - 1, by omega⟩
    have hi2 : i < 10 := by omega
    have g := ih (i + 1) n (by omega) (by omega)
    refine br_f (nI_ge (b := 10) hi2 (by decide)) ⟨mt_in10 hr hi2, ?_⟩
    rw [mt_c10 hr hi2, hp i hi2]
    by_cases z : p i = x
    · rw [mt_ch, if_pos z] at g
      exact br_t z (nm_r (nI_1 _) (nm_r (nI_1 i) g))
    · rw [mt_ch, if_neg z] at g
      exact br_f z (nm_r (nI_1 i) g)
theorem mt_Y_ch {p : Nat → Int32} (hp : ∀ n, n < 10 → pa n = p n) (x : Int32) (post : Int32 → SY → Prop) (H : post (nI (mt_ch p x 10)) (md, sk, og, st, mv, nd, ar, kw, pa, la, dn, oq, ol)) :
    ∀ (d i n : Nat), i + d = 10 → d < n → wY_children_28 post x md sk og st mv nd ar kw pa la dn oq ol n (nI (mt_ch p x i)) (nI i) := by
  intro d
  induction d with
  | zero =>
    intro i n hi hn
    obtain ⟨n, rfl⟩ : ∃ k, n = k + 1 := ⟨n - 1, by omega⟩
    obtain rfl : i = 10 := by omega
    exact br_t (by decide) H
  | succ d ih =>
    intro i n hi hn
    obtain ⟨n, rfl⟩ : ∃ k, n = k + 1 := ⟨n - 1, by omega⟩
    have hi2 : i < 10 := by omega
    have g := ih (i + 1) n (by omega) (by omega)
    refine br_f (nI_ge (b := 10) hi2 (by decide)) ⟨vp_in_nI hi2 (by decide), ?_⟩
    rw [mt_cl (by omega), hp i hi2]
    by_cases z : p i = x
    · rw [mt_ch, if_pos z] at g
      exact br_t z (nm_r (nI_1 _) (nm_r (nI_1 i) g))
    · rw [mt_ch, if_neg z] at g
      exact br_f z (nm_r (nI_1 i) g)
end
-- depth
def mt_dp (p : Nat → Int32) : Nat → Int32 → Nat → Nat
  | 0, _, k => k
  | d + 1, a, k => if a = -1 then k else mt_dp p d (p a.toNatClampNeg) (k + 1)
section
variable {cm : Int32} {iv cn op kn sp sb sm : Nat → Int32} {md sk : Int32} {og st mv nd ar kw pa la dn oq ol : Nat → Int32}
theorem mt_X_dp {r : Nat} (hr : r < 3) {p : Nat → Int32} (hp : ∀ n, n < 10 → sp (r * 10 + n) = p n) (ho : ∀ n, n < 10 → mt_ok (p n)) (post : Int32 → Prop) :
    ∀ (d i n : Nat) (a : Int32), i + d = 10 → d < n → mt_ok a → post (nI (mt_dp p d a i)) → wX_depth_31 post (nI r) cm iv cn op kn sp sb sm n (nI i) a := by
  intro d
  induction d with
  | zero =>
    intro i n a hi hn ha H
    obtain ⟨n, rfl⟩ : ∃ k, n = k + 1 := ⟨n - 1, by omega⟩
    exact br_c (fun _ => H) (fun _ => br_t (nI_le (a := 10) (by omega) (by omega)) H)
  | succ d ih =>
    intro i n a hi hn ha H
    obtain ⟨n, rfl⟩ : ∃ k, n = k + 1 := ⟨n - 1, by omega⟩
    rw [mt_dp] at H
    by_cases z : a = -1
    · rw [if_pos z] at H
      exact br_t z H
    · rw [if_neg z] at H
      refine br_f z (br_f (nI_ge (b := 10) (by omega) (by decide)) ?_)
      rcases ha with ha | ⟨j, hj, rfl⟩
      · exact absurd ha z
      · rw [mt_cl (by omega)] at H
        refine nm_r (nI_1 i) ⟨mt_in10 hr hj, nm_r (by rw [mt_c10 hr hj, hp j hj]) ?_⟩
        exact ih (i + 1) n _ (by omega) (by omega) (ho j hj) H
theorem mt_Y_dp {p : Nat → Int32} (hp : ∀ n, n < 10 → pa n = p n) (ho : ∀ n, n < 10 → mt_ok (p n)) (post : Int32 → SY → Prop) :
    ∀ (d i n j : Nat), i + d = 10 → d < n → j < 10 → post (nI (mt_dp p d (p j) i)) (md, sk, og, st, mv, nd, ar, kw, pa, la, dn, oq, ol) → wY_depth_28 post md sk og st mv nd ar kw pa la dn oq ol n (nI i) (nI j) := by
  intro d
  induction d with
  | zero =>
    intro i n j hi hn hj H
    obtain ⟨n, rfl⟩ : ∃ k, n = k + 1 := ⟨n - 1, by omega⟩
    exact br_t (nI_le (a := 10) (by omega) (by omega)) H
  | succ d ih =>
    intro i n j hi hn hj H
    obtain ⟨n, rfl⟩ : ∃ k, n = k + 1 := ⟨n - 1, by omega⟩
    have i1 : vp_in (nI j) 10 := vp_in_nI hj (by decide)
    rw [mt_dp] at H
    refine br_f (nI_ge (b := 10) (by omega) (by decide)) ⟨i1, ?_⟩
    rw [mt_cl (by omega), hp j hj]
    rcases ho j hj with e | ⟨q, hq, e⟩
    · rw [if_pos e] at H
      rw [e]
      exact br_t (by decide) H
    · rw [e, if_neg (mt_ok_neg hq), mt_cl (by omega)] at H
      rw [e]
      refine br_f (nI_pos (by omega)) ⟨i1, nm_e (nm_r (nI_1 i) ?_)⟩
      exact ih (i + 1) n q (by omega) (by omega) hq H
end
-- alike
def mt_al (T U : mt_T) : Nat → Nat → Int32
  | 0, _ => 1
  | d + 1, i => if T.1 i = U.1 i then (if T.2.1 i = U.2.1 i then mt_al T U d (i + 1) else 0) else 0
section
variable {cm : Int32} {iv cn op kn sp sb sm : Nat → Int32} {md sk : Int32} {og st mv nd ar kw pa la dn oq ol : Nat → Int32}
theorem mt_X_al {a b : Nat} (ha : a < 3) (hb : b < 3) {T U : mt_T} (hT : mt_VX a sp sb sm T) (hU : mt_VX b sp sb sm U) (post : Int32 → Prop) :
    ∀ (d i n : Nat), i + d = 10 → d < n → post (mt_al T U d i) → wX_alike_18 post (nI a) (nI b) cm iv cn op kn sp sb sm n (nI i) := by
  intro d
  induction d with
  | zero =>
    intro i n hi hn H
    obtain ⟨n, rfl⟩ : ∃ k, n = k + 1 := ⟨n - 1, by omega⟩
    exact br_t (nI_le (a := 10) (by omega) (by omega)) H
  | succ d ih =>
    intro i n hi hn H
    obtain ⟨n, rfl⟩ : ∃ k, n = k + 1 := ⟨n - 1, by omega⟩
    have hi2 : i < 10 := by omega
    rw [mt_al] at H
    refine br_f (nI_ge (b := 10) hi2 (by decide)) (nm_e (nm_e ⟨mt_in10 ha hi2, mt_in10 hb hi2, ?_⟩))
    rw [mt_c10 ha hi2, mt_c10 hb hi2, (hT.1 i hi2).1, (hU.1 i hi2).1, (hT.1 i hi2).2, (hU.1 i hi2).2]
    by_cases z : T.1 i = U.1 i
    · rw [if_pos z] at H
      refine br_t z ⟨mt_in10 ha hi2, mt_in10 hb hi2, ?_⟩
      by_cases y : T.2.1 i = U.2.1 i
      · rw [if_pos y] at H
        exact br_t y (nm_r (nI_1 i) (ih (i + 1) n (by omega) (by omega) H))
      · rw [if_neg y] at H
        exact br_f y H
    · rw [if_neg z] at H
      exact br_f z H
theorem mt_Y_al {T U : mt_T} (hT : ∀ n, n < 10 → oq n = T.1 n ∧ ol n = T.2.1 n) (hU : ∀ n, n < 10 → pa n = U.1 n ∧ la n = U.2.1 n) (post : Int32 → SY → Prop) :
    ∀ (d i n : Nat), i + d = 10 → d < n → post (mt_al T U d i) (md, sk, og, st, mv, nd, ar, kw, pa, la, dn, oq, ol) → wY_alike_70 post md sk og st mv nd ar kw pa la dn oq ol n (nI i) := by
  intro d
  induction d with
  | zero =>
    intro i n hi hn H
    obtain ⟨n, rfl⟩ : ∃ k, n = k + 1 := ⟨n - 1, by omega⟩
    exact br_t (nI_le (a := 10) (by omega) (by omega)) H
  | succ d ih =>
    intro i n hi hn H
    obtain ⟨n, rfl⟩ : ∃ k, n = k + 1 := ⟨n - 1, by omega⟩
    have hi2 : i < 10 := by omega
    have i1 : vp_in (nI i) 10 := vp_in_nI hi2 (by decide)
    rw [mt_al] at H
    refine br_f (nI_ge (b := 10) hi2 (by decide)) ⟨i1, i1, ?_⟩
    rw [mt_cl (by omega), (hT i hi2).1, (hU i hi2).1, (hT i hi2).2, (hU i hi2).2]
    by_cases z : T.1 i = U.1 i
    · rw [if_pos z] at H
      refine br_t z ⟨i1, i1, ?_⟩
      by_cases y : T.2.1 i = U.2.1 i
      · rw [if_pos y] at H
        exact br_t y (nm_r (nI_1 i) (ih (i + 1) n (by omega) (by omega) H))
      · rw [if_neg y] at H
        exact br_f y H
    · rw [if_neg z] at H
      exact br_f z H
theorem mt_Y_25 {x2 : Int32} {T : mt_T} (hT : ∀ n, n < 10 → pa n = T.1 n ∧ la n = T.2.1 n) (post : Int32 → SY → Prop)
    (H : ∀ oq ol : Nat → Int32, (∀ n, n < 10 → oq n = T.1 n ∧ ol n = T.2.1 n) → ∀ n : Nat, wY_alike_25 post x2 md sk (n + 1) 10 og st mv nd ar kw pa la dn oq ol) :
    ∀ (d i n : Nat) (oq ol : Nat → Int32), i + d = 10 → d < n → (∀ k, k < i → oq k = T.1 k ∧ ol k = T.2.1 k) → wY_alike_25 post x2 md sk n (nI i) og st mv nd ar kw pa la dn oq ol := by
  intro d
  induction d with
  | zero =>
    intro i n oq ol hi hn hz
    obtain ⟨n, rfl⟩ : ∃ k, n = k + 1 := ⟨n - 1, by omega⟩
    obtain rfl : i = 10 := by omega
    exact H oq ol hz n
  | succ d ih =>
    intro i n oq ol hi hn hz
    obtain ⟨n, rfl⟩ : ∃ k, n = k + 1 := ⟨n - 1, by omega⟩
    have hi2 : i < 10 := by omega
    have i1 : vp_in (nI i) 10 := vp_in_nI hi2 (by decide)
    refine br_f (nI_ge (b := 10) hi2 (by decide)) ⟨i1, i1, nm_r (by rw [mt_cl (by omega)]) ⟨i1, i1, nm_r (by rw [mt_cl (by omega)]) (nm_r (nI_1 i) ?_)⟩⟩
    refine ih (i + 1) n _ _ (by omega) (by omega) (fun k hk => ?_)
    by_cases e : k = i
    · rw [e, pk_us, pk_us]; exact hT i hi2
    · rw [pk_un e, pk_un e]; exact hz k (by omega)
end
end
section
def mt_Rel (u : SX) (v : SY) : Prop := ∃ (m : Nat) (sl : Nat → Nat) (iv cn op kn sp sb sm : Nat → Int32) (sk : Int32) (og st mv nd ar kw pa la dn oq ol : Nat → Int32),
  u = (nI m, iv, cn, op, kn, sp, sb, sm) ∧ v = (nI m, sk, og, st, mv, nd, ar, kw, pa, la, dn, oq, ol)
  ∧ mt_core m sl iv cn op kn og st mv nd ar kw ∧ ∀ r, r < 3 → mt_VX r sp sb sm (mt_rp iv cn op kn r 180)
def i_Rel (k : Nat) (u : SX) (v : SY) : Prop := k = k ∧ mt_Rel u v
theorem i_up {k : Nat} {u : SX} {v : SY} (h : i_Rel k u v) : i_Rel (k + 4) u v := ⟨rfl, h.2⟩
section
variable {k m : Nat} {sl : Nat → Nat} {iv cn op kn sp sb sm : Nat → Int32} {og st mv nd ar kw : Nat → Int32} {oq ol : Nat → Int32}
theorem mt_rel (hc : mt_core m sl iv cn op kn og st mv nd ar kw) (hs : ∀ r, r < 3 → mt_VX r sp sb sm (mt_rp iv cn op kn r 180)) {sk : Int32} {pa la dn oq ol : Nat → Int32} : i_Rel k (nI m, iv, cn, op, kn, sp, sb, sm) (nI m, sk, og, st, mv, nd, ar, kw, pa, la, dn, oq, ol) :=
  ⟨rfl, m, sl, iv, cn, op, kn, sp, sb, sm, sk, og, st, mv, nd, ar, kw, pa, la, dn, oq, ol, rfl, rfl, hc, hs⟩
end
-- a new object
theorem mt_X_i (post : SX → Prop) (H : ∀ sp : Nat → Int32, (∀ n, n < 30 → sp n = -1) → post (0, fun _ => 0, fun _ => 0, fun _ => 0, fun _ => 0, sp, fun _ => 0, fun _ => 0)) :
    ∀ (d i n : Nat) (sp : Nat → Int32), i + d = 30 → d < n → (∀ k, k < i → sp k = -1) → wX_init_70 post 0 n (nI i) (fun _ => 0) (fun _ => 0) (fun _ => 0) (fun _ => 0) sp (fun _ => 0) (fun _ => 0) := by
  intro d
  induction d with
  | zero =>
    intro i n sp hi hn hz
    obtain ⟨n, rfl⟩ : ∃ k, n = k + 1 := ⟨n - 1, by omega⟩
    obtain rfl : i = 30 := by omega
    exact br_t (by decide) (H sp hz)
  | succ d ih =>
    intro i n sp hi hn hz
    obtain ⟨n, rfl⟩ : ∃ k, n = k + 1 := ⟨n - 1, by omega⟩
    refine br_f (nI_ge (b := 30) (by omega) (by decide)) ⟨vp_in_nI (by omega) (by decide), nm_r (by rw [mt_cl (by omega)]) (nm_r (nI_1 i) ?_)⟩
    refine ih (i + 1) n _ (by omega) (by omega) (fun k hk => ?_)
    by_cases e : k = i
    · rw [e, pk_us]
    · rw [pk_un e]; exact hz k (by omega)
theorem i_vc0 : wpX_init (fun u => wpY_init (fun v => i_Rel 0 u v)) := by
  refine ⟨31, mt_X_i _ (fun sp hz => ?_) 30 0 31 (fun _ => 0) rfl (by decide) (fun k hk => by omega)⟩
  refine mt_rel (m := 0) (sl := fun _ => 0) ⟨by omega, fun c hc => by omega, fun c hc => by omega, fun c hc => by omega, fun c d _ hd => by omega, fun r s hr hs => ?_, fun r c _ _ _ => rfl⟩ (fun r hr => ?_)
  · exact ⟨fun h => absurd rfl h, fun ⟨c, hc, _⟩ => by omega⟩
  · rw [mt_rp_gap' (S := 0) (by omega) (fun s _ _ => rfl)]
    exact ⟨fun n hn => ⟨hz _ (by omega), rfl⟩, rfl⟩
-- what is read
theorem i_vc_parent {k : Nat} {u : SX} {v : SY} (I : i_Rel k u v) (hk : k + 4 ≤ 2048) (v1 : Int32) (v2 : Int32) : wpX_parent (fun r => wpY_parent (fun r' v' => r' = r ∧ i_Rel (k + 4) u v') v v1 v2) u v1 v2 := by
  obtain ⟨_, m, sl, iv, cn, op, kn, sp, sb, sm, sk, og, st, mv, nd, ar, kw, pa, la, dn, oq, ol, rfl, rfl, hc, hs⟩ := I
  unfold wpX_parent wpY_parent
  dsimp only
  by_cases hR : ∃ r : Nat, r < 3 ∧ v1 = nI r
  · obtain ⟨r, hr, rfl⟩ := hR
    refine mt_Xr_t hr (br_f (by decide) ?_)
    by_cases hN : ∃ j : Nat, j < 10 ∧ v2 = nI j
    · obtain ⟨j, hj, rfl⟩ := hN
      refine mt_Xn_t hj (br_f (by decide) ⟨mt_in10 hr hj, ?_⟩)
      refine mt_Yr_t hr (br_t rfl (mt_Yn_t hj (br_t rfl ?_)))
      refine mt_Y_co hc hr (-1) _ (fun x3 sk pa la dn hV _ _ => ⟨vp_in_nI hj (by decide), ?_, mt_rel hc hs⟩)
      rw [mt_c10 hr hj, mt_cl (by omega)]
      exact (hV.1 j hj).1.trans ((hs r hr).1 j hj).1.symm
    · exact mt_Xn_f hN (br_t rfl (mt_Yr_t hr (br_t rfl (mt_Yn_f hN (br_f (by decide) ⟨rfl, mt_rel hc hs⟩)))))
  · exact mt_Xr_f hR (br_t rfl (mt_Yr_f hR (br_f (by decide) ⟨rfl, mt_rel hc hs⟩)))
theorem i_vc_label {k : Nat} {u : SX} {v : SY} (I : i_Rel k u v) (hk : k + 4 ≤ 2048) (v1 : Int32) (v2 : Int32) : wpX_label (fun r => wpY_label (fun r' v' => r' = r ∧ i_Rel (k + 4) u v') v v1 v2) u v1 v2 := by
  obtain ⟨_, m, sl, iv, cn, op, kn, sp, sb, sm, sk, og, st, mv, nd, ar, kw, pa, la, dn, oq, ol, rfl, rfl, hc, hs⟩ := I
  unfold wpX_label wpY_label
  dsimp only
  by_cases hR : ∃ r : Nat, r < 3 ∧ v1 = nI r
  · obtain ⟨r, hr, rfl⟩ := hR
    refine mt_Xr_t hr (br_f (by decide) ?_)
    by_cases hN : ∃ j : Nat, j < 10 ∧ v2 = nI j
    · obtain ⟨j, hj, rfl⟩ := hN
      refine mt_Xn_t hj (br_f (by decide) ⟨mt_in10 hr hj, ?_⟩)
      refine mt_Yr_t hr (br_t rfl (mt_Yn_t hj (br_t rfl ?_)))
      refine mt_Y_co hc hr (-1) _ (fun x3 sk pa la dn hV _ _ => ⟨vp_in_nI hj (by decide), ?_, mt_rel hc hs⟩)
      rw [mt_c10 hr hj, mt_cl (by omega)]
      exact (hV.1 j hj).2.trans ((hs r hr).1 j hj).2.symm
    · exact mt_Xn_f hN (br_t rfl (mt_Yr_t hr (br_t rfl (mt_Yn_f hN (br_f (by decide) ⟨rfl, mt_rel hc hs⟩)))))
  · exact mt_Xr_f hR (br_t rfl (mt_Yr_f hR (br_f (by decide) ⟨rfl, mt_rel hc hs⟩)))
theorem i_vc_children {k : Nat} {u : SX} {v : SY} (I : i_Rel k u v) (hk : k + 4 ≤ 2048) (v1 : Int32) (v2 : Int32) : wpX_children (fun r => wpY_children (fun r' v' => r' = r ∧ i_Rel (k + 4) u v') v v1 v2) u v1 v2 := by
  obtain ⟨_, m, sl, iv, cn, op, kn, sp, sb, sm, sk, og, st, mv, nd, ar, kw, pa, la, dn, oq, ol, rfl, rfl, hc, hs⟩ := I
  unfold wpX_children wpY_children
  dsimp only
  by_cases hR : ∃ r : Nat, r < 3 ∧ v1 = nI r
  · obtain ⟨r, hr, rfl⟩ := hR
    refine mt_Xr_t hr (br_f (by decide) ?_)
    by_cases hN : ∃ j : Nat, j < 10 ∧ v2 = nI j
    · obtain ⟨j, hj, rfl⟩ := hN
      refine mt_Xn_t hj (br_f (by decide) ⟨11, mt_X_ch hr (fun n hn => ((hs r hr).1 n hn).1) (nI j) _ ?_ 10 0 11 rfl (by decide)⟩)
      refine mt_Yr_t hr (br_t rfl (mt_Yn_t hj (br_t rfl ?_)))
      refine mt_Y_co hc hr (-1) _ (fun x3 sk pa la dn hV _ _ => ⟨11, mt_Y_ch (fun n hn => (hV.1 n hn).1) (nI j) _ ⟨rfl, mt_rel hc hs⟩ 10 0 11 rfl (by decide)⟩)
    · exact mt_Xn_f hN (br_t rfl (mt_Yr_t hr (br_t rfl (mt_Yn_f hN (br_f (by decide) ⟨rfl, mt_rel hc hs⟩)))))
  · exact mt_Xr_f hR (br_t rfl (mt_Yr_f hR (br_f (by decide) ⟨rfl, mt_rel hc hs⟩)))
theorem i_vc_depth {k : Nat} {u : SX} {v : SY} (I : i_Rel k u v) (hk : k + 4 ≤ 2048) (v1 : Int32) (v2 : Int32) : wpX_depth (fun r => wpY_depth (fun r' v' => r' = r ∧ i_Rel (k + 4) u v') v v1 v2) u v1 v2 := by
  obtain ⟨_, m, sl, iv, cn, op, kn, sp, sb, sm, sk, og, st, mv, nd, ar, kw, pa, la, dn, oq, ol, rfl, rfl, hc, hs⟩ := I
  unfold wpX_depth wpY_depth
  dsimp only
  by_cases hR : ∃ r : Nat, r < 3 ∧ v1 = nI r
  · obtain ⟨r, hr, rfl⟩ := hR
    refine mt_Xr_t hr (br_f (by decide) ?_)
    by_cases hN : ∃ j : Nat, j < 10 ∧ v2 = nI j
    · obtain ⟨j, hj, rfl⟩ := hN
      have ho := mt_core_ok hc hr (Nat.le_refl 180)
      refine mt_Xn_t hj (br_f (by decide) ⟨mt_in10 hr hj, nm_r (by rw [mt_c10 hr hj, ((hs r hr).1 j hj).1]) ⟨11, mt_X_dp hr (fun n hn => ((hs r hr).1 n hn).1) ho _ 10 0 11 _ rfl (by decide) (ho j hj) ?_⟩⟩)
      refine mt_Yr_t hr (br_t rfl (mt_Yn_t hj (br_t rfl ?_)))
      refine mt_Y_co hc hr (-1) _ (fun x3 sk pa la dn hV _ _ => ⟨11, mt_Y_dp (fun n hn => (hV.1 n hn).1) ho _ 10 0 11 j rfl (by decide) hj ⟨rfl, mt_rel hc hs⟩⟩)
    · exact mt_Xn_f hN (br_t rfl (mt_Yr_t hr (br_t rfl (mt_Yn_f hN (br_f (by decide) ⟨rfl, mt_rel hc hs⟩)))))
  · exact mt_Xr_f hR (br_t rfl (mt_Yr_f hR (br_f (by decide) ⟨rfl, mt_rel hc hs⟩)))
theorem i_vc_skipped {k : Nat} {u : SX} {v : SY} (I : i_Rel k u v) (hk : k + 4 ≤ 2048) (v1 : Int32) : wpX_skipped (fun r => wpY_skipped (fun r' v' => r' = r ∧ i_Rel (k + 4) u v') v v1) u v1 := by
  obtain ⟨_, m, sl, iv, cn, op, kn, sp, sb, sm, sk, og, st, mv, nd, ar, kw, pa, la, dn, oq, ol, rfl, rfl, hc, hs⟩ := I
  unfold wpX_skipped
  dsimp only
  by_cases hR : ∃ r : Nat, r < 3 ∧ v1 = nI r
  · obtain ⟨r, hr, rfl⟩ := hR
    refine mt_Xr_t hr (br_f (by decide) ⟨vp_in_nI hr (by decide), ?_⟩)
    refine mt_Y_sk hc hr _ (fun sk pa la dn hV => ⟨?_, mt_rel hc hs⟩)
    rw [mt_cl (by omega), hV.2, (hs r hr).2]
  · unfold wpY_skipped
    dsimp only
    exact mt_Xr_f hR (br_t rfl (mt_Yr_f hR (br_f (by decide) ⟨rfl, mt_rel hc hs⟩)))
theorem i_vc_alike {k : Nat} {u : SX} {v : SY} (I : i_Rel k u v) (hk : k + 4 ≤ 2048) (v1 : Int32) (v2 : Int32) : wpX_alike (fun r => wpY_alike (fun r' v' => r' = r ∧ i_Rel (k + 4) u v') v v1 v2) u v1 v2 := by
  obtain ⟨_, m, sl, iv, cn, op, kn, sp, sb, sm, sk, og, st, mv, nd, ar, kw, pa, la, dn, oq, ol, rfl, rfl, hc, hs⟩ := I
  unfold wpX_alike wpY_alike
  dsimp only
  by_cases hR : ∃ r : Nat, r < 3 ∧ v1 = nI r
  · obtain ⟨a, ha, rfl⟩ := hR
    refine mt_Xr_t ha (br_f (by decide) ?_)
    by_cases hN : ∃ j : Nat, j < 3 ∧ v2 = nI j
    · obtain ⟨b, hb, rfl⟩ := hN
      refine mt_Xr_t hb (br_f (by decide) ⟨11, mt_X_al ha hb (hs a ha) (hs b hb) _ 10 0 11 rfl (by decide) ?_⟩)
      refine mt_Yr_t ha (br_t rfl (mt_Yr_t hb (br_t rfl ?_)))
      refine mt_Y_co hc ha (-1) _ (fun x3 sk pa la dn hV _ _ => ⟨11, mt_Y_25 hV.1 _ (fun oq ol ho n => ?_) 10 0 11 oq ol rfl (by decide) (fun k hk => by omega)⟩)
      refine br_t (by decide) ?_
      refine mt_Y_co hc hb (-1) _ (fun x3 sk pa la dn hW _ _ => ⟨11, mt_Y_al ho hW.1 _ 10 0 11 rfl (by decide) ⟨rfl, mt_rel hc hs⟩⟩)
    · exact mt_Xr_f hN (br_t rfl (mt_Yr_t ha (br_t rfl (mt_Yr_f hN (br_f (by decide) ⟨rfl, mt_rel hc hs⟩)))))
  · exact mt_Xr_f hR (br_t rfl (mt_Yr_f hR (br_f (by decide) ⟨rfl, mt_rel hc hs⟩)))
end
section
section
variable {m : Nat} {sl : Nat → Nat} {iv cn op kn sp sb sm og st mv nd ar kw : Nat → Int32}
theorem mt_q_x1 (h : mt_core m sl iv cn op kn og st mv nd ar kw) {r q : Nat} (hr : r < 3) (hq : mt_q m sl kw r q) : ∀ s, s < 180 → ¬ kn (r * 180 + s) = 0 → s / 3 + 1 ≤ q := by
  intro s hs z
  obtain ⟨c, hc, e, y⟩ := (h.2.2.2.2.2.1 r s hr hs).mp z
  rw [← e]; exact hq.1 c hc y
theorem mt_q_x2 (h : mt_core m sl iv cn op kn og st mv nd ar kw) {r q : Nat} (hr : r < 3) (hq : mt_q m sl kw r q) : q = 0 ∨ ∃ s, s < 180 ∧ ¬ kn (r * 180 + s) = 0 ∧ s / 3 + 1 = q := by
  rcases hq.2 with e | ⟨c, hc, y, e⟩
  · exact Or.inl e
  · exact Or.inr ⟨sl c, mt_core_sl h hc, (mt_core_kn h hr hc).mpr y, e⟩
theorem mt_new_V (h : mt_core m sl iv cn op kn og st mv nd ar kw) (hs : ∀ r, r < 3 → mt_VX r sp sb sm (mt_rp iv cn op kn r 180)) {r q : Nat} (hr : r < 3) (hm : m < 60) (hq : mt_q m sl kw r q) {b x y : Int32} {sp' sb' sm' : Nat → Int32} (hV : mt_VX r sp' sb' sm' (mt_ap b x y (mt_rp iv cn op kn r 180))) (hF : mt_FR r sp sb sm sp' sb' sm') :
    ∀ r', r' < 3 → mt_VX r' sp' sb' sm' (mt_rp (upd iv (3 * q + r) b) (upd cn (3 * q + r) x) (upd op (3 * q + r) y) (upd kn (r * 180 + (3 * q + r)) 1) r' 180) := by
  intro r' hr'
  by_cases e : r' = r
  · subst e
    rw [mt_new_s h hr hm hq]; exact hV
  · rw [mt_new_o h hr hm hq b x y hr' e]
    exact mt_FR_V hF hr' e (hs r' hr')
end
theorem i_vc_move {k : Nat} {u : SX} {v : SY} (I : i_Rel k u v) (hk : k + 4 ≤ 2048) (v1 : Int32) (v2 : Int32) (v3 : Int32) : wpX_move (fun r u' => wpY_move (fun r' v' => r' = r ∧ i_Rel (k + 4) u' v') v v1 v2 v3) u v1 v2 v3 := by
  obtain ⟨_, m, sl, iv, cn, op, kn, sp, sb, sm, sk, og, st, mv, nd, ar, kw, pa, la, dn, oq, ol, rfl, rfl, hc, hs⟩ := I
  have hm6 := hc.1
  unfold wpX_move wpY_move
  dsimp only
  by_cases hR : ∃ r : Nat, r < 3 ∧ v1 = nI r
  · obtain ⟨r, hr, rfl⟩ := hR
    refine mt_Xr_t hr (br_f (by decide) ?_)
    by_cases hN : ∃ j : Nat, j < 10 ∧ v2 = nI j
    · obtain ⟨j, hj, rfl⟩ := hN
      refine mt_Xn_t hj (br_f (by decide) ?_)
      by_cases h0 : j = 0
      · subst h0
        exact br_t rfl (mt_Yr_t hr (br_t rfl (br_t (by decide) ⟨rfl, mt_rel hc hs⟩)))
      · refine br_f (nI_ne0 (by omega) (by omega)) ?_
        have n1 : ¬ nI j < 1 := nI_nlt (b := 1) (by omega) (by omega)
        have n9 : ¬ 9 < nI j := nI_nlt (a := 9) (by omega) (by decide)
        by_cases hP : ∃ p : Nat, p < 10 ∧ v3 = nI p
        · obtain ⟨p, hp, rfl⟩ := hP
          refine mt_Xn_t hp (br_f (by decide) ?_)
          by_cases hm : m < 60
          · refine br_t (nI_lt (b := 60) hm (by decide)) ?_
            obtain ⟨q, hq⟩ := mt_max kw sl r m
            have ql := mt_q_le hc hq
            have hv : mt_v (vp_nar .boolean 1) (nI j) (nI p) := ⟨⟨j, hj, rfl⟩, fun _ => ⟨p, hp, rfl⟩⟩
            have hc' := mt_core_new hc hr hm hq hv
            refine mt_X_mk hr (by omega) (mt_q_x1 hc hr hq) (mt_q_x2 hc hr hq) hv (hs r hr) (mt_core_ok hc hr (Nat.le_refl 180)) _ (fun sp' sb' sm' hV hF => ?_)
            refine mt_Yr_t hr (br_t rfl (br_f n1 (br_f n9 (mt_Yn_t hp (br_t rfl (br_f ?_ ?_))))))
            · intro e
              have := (nI_eq (a := m) (b := 60) (by omega) (by omega)).mp e
              omega
            · refine mt_Y_mk hc hr hm hq _ ?_
              refine mt_Y_co hc' hr (nI m) _ (fun x3 sk pa la dn hW hb hA => ?_)
              have hx := hA m (by omega) rfl (by rw [pk_us]; decide) (by rw [pk_us, mt_b1]; decide)
              rw [mt_sn_s, pk_us, pk_us, mt_new_t hc hr hm hq] at hx
              have ha : mt_an (vp_nar .boolean 1) (nI j) (nI p) (mt_rp iv cn op kn r 180) = x3 := by
                rw [mt_an, if_neg (by rw [mt_b1]; decide), hx]
              have hrel : ∀ {sk : Int32} {pa la dn oq ol : Nat → Int32}, i_Rel (k + 4) (nI m + 1, upd iv (3 * q + r) (vp_nar .boolean 1), upd cn (3 * q + r) (nI j), upd op (3 * q + r) (nI p), upd kn (r * 180 + (3 * q + r)) 1, sp', sb', sm') (nI (m + 1), sk, upd og m (nI r), upd st m (nI (q + 1)), upd mv m (vp_nar .boolean 1), upd nd m (nI j), upd ar m (nI p), upd kw (r * 60 + m) 1, pa, la, dn, oq, ol) := by
                intro sk pa la dn oq ol
                rw [nI_1]
                exact mt_rel hc' (mt_new_V hc hs hr hm hq hV hF)
              rcases hb with hb | hb
              · exact br_t hb ⟨by rw [ha, hb], hrel⟩
              · exact br_f (by rw [hb]; decide) ⟨by rw [ha, hb], hrel⟩
          · have e60 : m = 60 := by omega
            subst e60
            exact br_f (by decide) (mt_Yr_t hr (br_t rfl (br_f n1 (br_f n9 (mt_Yn_t hp (br_t rfl (br_t rfl ⟨rfl, mt_rel hc hs⟩)))))))
        · exact mt_Xn_f hP (br_t rfl (mt_Yr_t hr (br_t rfl (br_f n1 (br_f n9 (mt_Yn_f hP (br_f (by decide) ⟨rfl, mt_rel hc hs⟩)))))))
    · refine mt_Xn_f hN (br_t rfl (mt_Yr_t hr (br_t rfl (br_c (fun _ => ⟨rfl, mt_rel hc hs⟩) (fun a => br_c (fun _ => ⟨rfl, mt_rel hc hs⟩) (fun b => ?_))))))
      have a0 : ¬ v2 < 0 := fun h => a (Int32.lt_trans h (by decide))
      obtain ⟨j, hj, e⟩ := nI_of2 (M := 9) (n := 9) (by decide) a0 (Int32.not_lt.mp b)
      exact absurd ⟨j, by omega, e⟩ hN
  · exact mt_Xr_f hR (br_t rfl (mt_Yr_f hR (br_f (by decide) ⟨rfl, mt_rel hc hs⟩)))
theorem i_vc_name {k : Nat} {u : SX} {v : SY} (I : i_Rel k u v) (hk : k + 4 ≤ 2048) (v1 : Int32) (v2 : Int32) (v3 : Int32) : wpX_name (fun r u' => wpY_name (fun r' v' => r' = r ∧ i_Rel (k + 4) u' v') v v1 v2 v3) u v1 v2 v3 := by
  obtain ⟨_, m, sl, iv, cn, op, kn, sp, sb, sm, sk, og, st, mv, nd, ar, kw, pa, la, dn, oq, ol, rfl, rfl, hc, hs⟩ := I
  have hm6 := hc.1
  unfold wpX_name wpY_name
  dsimp only
  by_cases hR : ∃ r : Nat, r < 3 ∧ v1 = nI r
  · obtain ⟨r, hr, rfl⟩ := hR
    refine mt_Xr_t hr (br_f (by decide) ?_)
    by_cases hN : ∃ j : Nat, j < 10 ∧ v2 = nI j
    · obtain ⟨j, hj, rfl⟩ := hN
      refine mt_Xn_t hj (br_f (by decide) ?_)
      by_cases hm : m < 60
      · refine br_t (nI_lt (b := 60) hm (by decide)) ?_
        obtain ⟨q, hq⟩ := mt_max kw sl r m
        have ql := mt_q_le hc hq
        have hv : mt_v (vp_nar .boolean 0) (nI j) v3 := ⟨⟨j, hj, rfl⟩, fun z => absurd mt_b0 z⟩
        have hc' := mt_core_new hc hr hm hq hv
        refine mt_X_mk hr (by omega) (mt_q_x1 hc hr hq) (mt_q_x2 hc hr hq) hv (hs r hr) (mt_core_ok hc hr (Nat.le_refl 180)) _ (fun sp' sb' sm' hV hF => ?_)
        refine mt_Yr_t hr (br_t rfl (mt_Yn_t hj (br_t rfl (br_f ?_ ?_))))
        · intro e
          have := (nI_eq (a := m) (b := 60) (by omega) (by omega)).mp e
          omega
        · refine mt_Y_mk hc hr hm hq _ ⟨?_, ?_⟩
          · rw [mt_an, if_pos mt_b0]
          · rw [nI_1]
            exact mt_rel hc' (mt_new_V hc hs hr hm hq hV hF)
      · have e60 : m = 60 := by omega
        subst e60
        exact br_f (by decide) (mt_Yr_t hr (br_t rfl (mt_Yn_t hj (br_t rfl (br_t rfl ⟨rfl, mt_rel hc hs⟩)))))
    · exact mt_Xn_f hN (br_t rfl (mt_Yr_t hr (br_t rfl (mt_Yn_f hN (br_f (by decide) ⟨rfl, mt_rel hc hs⟩)))))
  · exact mt_Xr_f hR (br_t rfl (mt_Yr_f hR (br_f (by decide) ⟨rfl, mt_rel hc hs⟩)))
theorem i_vc_deliver {k : Nat} {u : SX} {v : SY} (I : i_Rel k u v) (hk : k + 4 ≤ 2048) (v1 : Int32) (v2 : Int32) : wpX_deliver (fun r u' => wpY_deliver (fun r' v' => r' = r ∧ i_Rel (k + 4) u' v') v v1 v2) u v1 v2 := by
  obtain ⟨_, m, sl, iv, cn, op, kn, sp, sb, sm, sk, og, st, mv, nd, ar, kw, pa, la, dn, oq, ol, rfl, rfl, hc, hs⟩ := I
  unfold wpX_deliver wpY_deliver
  dsimp only
  by_cases hR : ∃ r : Nat, r < 3 ∧ v1 = nI r
  · obtain ⟨f, hf, rfl⟩ := hR
    refine mt_Xr_t hf (br_f (by decide) ?_)
    by_cases hN : ∃ j : Nat, j < 3 ∧ v2 = nI j
    · obtain ⟨t, ht, rfl⟩ := hN
      -- an origin knows its own
      have own : ∀ c, c < m → sl c % 3 = f → ¬ kn (f * 180 + sl c) = 0 := fun c hcm e => (mt_core_kn hc hf hcm).mpr (by rw [← e]; exact hc.2.2.2.1 c hcm)
      refine mt_Xr_t ht (br_f (by decide) ?_)
      refine mt_X_fm hf ht _ (fun none => ?_) (fun s hs180 h3 hk1 hk2 first => ?_)
      · refine br_t rfl (mt_Yr_t hf (br_t rfl (mt_Yr_t ht (br_t rfl ⟨m + 1, mt_Y_dl hc hf ht _ (fun _ => ⟨rfl, mt_rel hc hs⟩) (fun c hcm e z _ => ?_) m 0 (m + 1) (by omega) (by omega) (fun c hc0 => by omega)⟩))))
        exact absurd z ((mt_core_kn hc ht hcm).mp (none (sl c) (mt_core_sl hc hcm) e (own c hcm e)))
      · obtain ⟨c0, hc0, es, hk0⟩ := (hc.2.2.2.2.2.1 f s hf hs180).mp hk1
        have z0 : kw (t * 60 + c0) = 0 := by
          by_cases z : kw (t * 60 + c0) = 0
          · exact z
          · have := (mt_core_kn hc ht hc0).mpr z
            rw [es] at this
            exact absurd hk2 this
        have hc' := mt_core_ln hc ht hc0
        rw [es] at hc'
        have nes : ¬ nI s = -1 := by
          intro e
          have h1 := congrArg Int32.toInt e
          rw [nI_toInt (by omega)] at h1
          have h2 : (-1 : Int32).toInt = -1 := by decide
          omega
        refine br_f nes ⟨mt_in180 ht hs180, nm_r (by rw [mt_c180 ht hs180, mt_b1]) ?_⟩
        refine mt_X_sa ht (fun s' hs' z => mt_core_v hc' ht hs' z) _ (fun sp' sb' sm' hV hF => ⟨vp_in_nI ht (by decide), ?_⟩)
        have hs' : ∀ r', r' < 3 → mt_VX r' sp' sb' sm' (mt_rp iv cn op (upd kn (t * 180 + s) 1) r' 180) := by
          intro r' hr'
          by_cases e : r' = t
          · subst e; exact hV
          · rw [mt_rp_keep (kn := kn) (fun s' hs' => pk_un (by omega))]
            exact mt_FR_V hF hr' e (hs r' hr')
        refine mt_Yr_t hf (br_t rfl (mt_Yr_t ht (br_t rfl ⟨m + 1, mt_Y_dl hc hf ht _ (fun all => ?_) (fun c hcm e z min => ?_) m 0 (m + 1) (by omega) (by omega) (fun c hc0 => by omega)⟩)))
        · exact absurd z0 (all c0 hc0 (by omega))
        · have ec : c = c0 := by
            by_cases l : c < c0
            · have l2 := hc.2.2.2.2.1 c c0 l hc0 (by omega)
              exact absurd z ((mt_core_kn hc ht hcm).mp (first (sl c) (by omega) e (own c hcm e)))
            · by_cases l2 : c0 < c
              · exact absurd z0 (min c0 l2 (by omega))
              · omega
          subst ec
          refine ⟨upd kn (t * 180 + s) 1, hc', fun sk pa la dn hW => ⟨?_, mt_rel hc' hs'⟩⟩
          rw [mt_cl (by omega)]
          exact hW.2.trans hV.2.symm
    · exact mt_Xr_f hN (br_t rfl (mt_Yr_t hf (br_t rfl (mt_Yr_f hN (br_f (by decide) ⟨rfl, mt_rel hc hs⟩)))))
  · exact mt_Xr_f hR (br_t rfl (mt_Yr_f hR (br_f (by decide) ⟨rfl, mt_rel hc hs⟩)))
theorem i_vc_sync {k : Nat} {u : SX} {v : SY} (I : i_Rel k u v) (hk : k + 4 ≤ 2048) (v1 : Int32) (v2 : Int32) : wpX_sync (fun r u' => wpY_sync (fun r' v' => r' = r ∧ i_Rel (k + 4) u' v') v v1 v2) u v1 v2 := by
  obtain ⟨_, m, sl, iv, cn, op, kn, sp, sb, sm, sk, og, st, mv, nd, ar, kw, pa, la, dn, oq, ol, rfl, rfl, hc, hs⟩ := I
  unfold wpX_sync wpY_sync
  dsimp only
  by_cases hR : ∃ r : Nat, r < 3 ∧ v1 = nI r
  · obtain ⟨f, hf, rfl⟩ := hR
    refine mt_Xr_t hf (br_f (by decide) ?_)
    by_cases hN : ∃ j : Nat, j < 3 ∧ v2 = nI j
    · obtain ⟨t, ht, rfl⟩ := hN
      have hc' := mt_core_sy hc hf ht
      refine mt_Xr_t ht (br_f (by decide) ⟨181, mt_X_sy hf ht kn _ ?_ 180 0 181 rfl (by decide)⟩)
      refine mt_X_sa ht (fun s' hs' z => mt_core_v hc' ht hs' z) _ (fun sp' sb' sm' hV hF => ?_)
      have hs' : ∀ r', r' < 3 → mt_VX r' sp' sb' sm' (mt_rp iv cn op (mt_sy (f * 180) (t * 180) kn 180).1 r' 180) := by
        intro r' hr'
        by_cases e : r' = t
        · subst e; exact hV
        · rw [mt_rp_keep (kn := kn) (fun s' hs' => (mt_sy_spec (w := 180) (by omega) 180 (by omega)).1 _ (fun s hs => by omega))]
          exact mt_FR_V hF hr' e (hs r' hr')
      refine mt_Yr_t hf (br_t rfl (mt_Yr_t ht (br_t rfl ⟨m + 1, mt_Y_sy hf ht hc.1 kw _ ⟨?_, mt_rel hc' hs'⟩ m 0 (m + 1) (by omega) (by omega)⟩)))
      rw [mt_sy_ct hc hf ht]
    · exact mt_Xr_f hN (br_t rfl (mt_Yr_t hf (br_t rfl (mt_Yr_f hN (br_f (by decide) ⟨rfl, mt_rel hc hs⟩)))))
  · exact mt_Xr_f hR (br_t rfl (mt_Yr_f hR (br_f (by decide) ⟨rfl, mt_rel hc hs⟩)))
end
