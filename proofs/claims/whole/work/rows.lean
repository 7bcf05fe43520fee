section
-- rows of kit/rows (pk_*), as given for pasting
theorem pk_us {f : Nat → Int32} {k : Nat} {x : Int32} : upd f k x k = x := if_pos rfl
theorem pk_un {f : Nat → Int32} {k j : Nat} {x : Int32} (h : j ≠ k) : upd f k x j = f j := if_neg h
theorem pk_m1 (n : Nat) : nI (n + 1) + (-1) = nI n := by
  rw [← nI_1, Int32.add_assoc, show (1 : Int32) + (-1) = 0 from rfl, Int32.add_zero]
theorem pk_mul (a b : Nat) : nI a * nI b = nI (a * b) := (Int32.ofNat_mul a b).symm
theorem pk_div {a d : Nat} (ha : a < 2 ^ 31) (h0 : 0 < d) (hd : d < 2 ^ 31) : nI a / nI d = nI (a / d) := by
  apply Int32.toInt_inj.mp
  rw [lg_idiv_nonneg (by rw [nI_toInt ha]; omega) (by rw [nI_toInt hd]; omega), nI_toInt ha, nI_toInt hd, nI_toInt (Nat.lt_of_le_of_lt (Nat.div_le_self a d) ha)]
  first | rfl | exact (Int.natCast_ediv _ _).symm
theorem pk_ix (x : Int32) {n : Nat} (hn : n < 2 ^ 31) : x < 0 ∨ nI n ≤ x ∨ ∃ j : Nat, j < n ∧ x = nI j := by
  by_cases h : x < 0
  · exact Or.inl h
  · obtain ⟨j, hj, rfl⟩ := nI_of h
    by_cases h2 : j < n
    · exact Or.inr (Or.inr ⟨j, h2, rfl⟩)
    · exact Or.inr (Or.inl (nI_le (by omega) hj))
theorem pk_le {x y : Int32} {A B : Prop} (a b : Nat) (f : a ≤ b → A) (g : b < a → B) (hx : x = nI a := by rfl) (hy : y = nI b := by rfl) (ha : a < 2 ^ 31 := by omega) (hb : b < 2 ^ 31 := by omega) : (x ≤ y → A) ∧ (¬ x ≤ y → B) := by
  subst hx hy
  rw [nI_leI ha hb]
  exact ⟨f, fun z => g (by omega)⟩
theorem pk_lt {x y : Int32} {A B : Prop} (a b : Nat) (f : a < b → A) (g : b ≤ a → B) (hx : x = nI a := by rfl) (hy : y = nI b := by rfl) (ha : a < 2 ^ 31 := by omega) (hb : b < 2 ^ 31 := by omega) : (x < y → A) ∧ (¬ x < y → B) := by
  subst hx hy
  rw [nI_ltI ha hb]
  exact ⟨f, fun z => g (by omega)⟩
theorem pk_eq {x y : Int32} {A B : Prop} (a b : Nat) (f : a = b → A) (g : a ≠ b → B) (hx : x = nI a := by rfl) (hy : y = nI b := by rfl) (ha : a < 2 ^ 31 := by omega) (hb : b < 2 ^ 31 := by omega) : (x = y → A) ∧ (¬ x = y → B) := by
  subst hx hy
  rw [nI_eq ha hb]
  exact ⟨f, g⟩
theorem pk_in {x : Int32} (n N : Nat) (h : n < N) (hx : x = nI n := by rfl) (hN : N < 2 ^ 31 := by omega) : vp_in x N := by
  subst hx
  exact vp_in_nI h hN
theorem pk_cl {x : Int32} (n : Nat) (hx : x = nI n := by rfl) (h : n < 2 ^ 31 := by omega) : x.toNatClampNeg = n := by
  subst hx
  exact nI_clamp h
-- indices
theorem mt_10 (r j : Nat) : nI r * 10 + nI j = nI (r * 10 + j) := by
  rw [show (10 : Int32) = nI 10 from rfl, pk_mul, nI_add]
theorem mt_180 (r j : Nat) : nI r * 180 + nI j = nI (r * 180 + j) := by
  rw [show (180 : Int32) = nI 180 from rfl, pk_mul, nI_add]
theorem mt_60 (r j : Nat) : 60 * nI r + nI j = nI (r * 60 + j) := by
  rw [show (60 : Int32) = nI 60 from rfl, pk_mul, nI_add, Nat.mul_comm 60 r]
theorem mt_in10 {r j : Nat} (hr : r < 3) (hj : j < 10) : vp_in (nI r * 10 + nI j) 30 := by
  rw [mt_10]; exact vp_in_nI (by omega) (by decide)
theorem mt_in180 {r j : Nat} (hr : r < 3) (hj : j < 180) : vp_in (nI r * 180 + nI j) 540 := by
  rw [mt_180]; exact vp_in_nI (by omega) (by decide)
theorem mt_in60 {r j : Nat} (hr : r < 3) (hj : j < 60) : vp_in (60 * nI r + nI j) 180 := by
  rw [mt_60]; exact vp_in_nI (by omega) (by decide)
theorem mt_c10 {r j : Nat} (hr : r < 3) (hj : j < 10) : (nI r * 10 + nI j).toNatClampNeg = r * 10 + j := by
  rw [mt_10]; exact nI_clamp (by omega)
theorem mt_c180 {r j : Nat} (hr : r < 3) (hj : j < 180) : (nI r * 180 + nI j).toNatClampNeg = r * 180 + j := by
  rw [mt_180]; exact nI_clamp (by omega)
theorem mt_c60 {r j : Nat} (hr : r < 3) (hj : j < 60) : (60 * nI r + nI j).toNatClampNeg = r * 60 + j := by
  rw [mt_60]; exact nI_clamp (by omega)
theorem mt_cl {j : Nat} (hj : j < 1000) : (nI j).toNatClampNeg = j := nI_clamp (by omega)
theorem mt_b1 : vp_nar .boolean 1 = 1 := by decide
theorem mt_b0 : vp_nar .boolean 0 = 0 := by decide
theorem mt_nb {x : Int32} (h : x = 0 ∨ x = 1) : narrow .boolean (.int x) = .int x := by
  rcases h with rfl | rfl <;> decide
-- a parent as it may stand
def mt_ok (x : Int32) : Prop := x = -1 ∨ ∃ j : Nat, j < 10 ∧ x = nI j
theorem mt_ok_neg {j : Nat} (hj : j < 10) : ¬ nI j = -1 := by
  intro h
  have h1 := congrArg Int32.toInt h
  rw [nI_toInt (by omega)] at h1
  have h2 : (-1 : Int32).toInt = -1 := by decide
  omega
-- is nd at a, or above it within n steps
def mt_ab (p : Nat → Int32) (nd : Int32) : Nat → Int32 → Int32
  | 0, _ => 0
  | n + 1, a => if a = -1 then 0 else if a = nd then 1 else mt_ab p nd n (p a.toNatClampNeg)
theorem mt_ab01 (p : Nat → Int32) (nd : Int32) : ∀ (n : Nat) (a : Int32), mt_ab p nd n a = 0 ∨ mt_ab p nd n a = 1 := by
  intro n
  induction n with
  | zero => intro a; exact Or.inl rfl
  | succ n ih =>
    intro a
    rw [mt_ab]
    by_cases h : a = -1
    · rw [if_pos h]; exact Or.inl rfl
    · rw [if_neg h]
      by_cases h2 : a = nd
      · rw [if_pos h2]; exact Or.inr rfl
      · rw [if_neg h2]; exact ih _
-- what a replica shows: parents, labels, skipped moves
abbrev mt_T : Type := (Nat → Int32) × (Nat → Int32) × Int32
def mt_ap (mv nd ar : Int32) (t : mt_T) : mt_T :=
  if mv = 0 then (t.1, upd t.2.1 nd.toNatClampNeg ar, t.2.2)
  else if mt_ab t.1 nd 10 ar = 0 then (upd t.1 nd.toNatClampNeg ar, t.2.1, t.2.2)
  else (t.1, t.2.1, t.2.2 + 1)
def mt_an (mv nd ar : Int32) (t : mt_T) : Int32 := if mv = 0 then 0 else mt_ab t.1 nd 10 ar
def mt_t0 : mt_T := (fun _ => -1, fun _ => 0, 0)
def mt_rp (iv cn op kn : Nat → Int32) (r : Nat) : Nat → mt_T
  | 0 => mt_t0
  | s + 1 => if kn (r * 180 + s) = 0 then mt_rp iv cn op kn r s else mt_ap (iv s) (cn s) (op s) (mt_rp iv cn op kn r s)
theorem mt_rp_n {iv cn op kn : Nat → Int32} {r s : Nat} (h : kn (r * 180 + s) = 0) : mt_rp iv cn op kn r (s + 1) = mt_rp iv cn op kn r s := by
  rw [mt_rp, if_pos h]
theorem mt_rp_y {iv cn op kn : Nat → Int32} {r s : Nat} (h : ¬ kn (r * 180 + s) = 0) : mt_rp iv cn op kn r (s + 1) = mt_ap (iv s) (cn s) (op s) (mt_rp iv cn op kn r s) := by
  rw [mt_rp, if_neg h]
theorem mt_rp_gap {iv cn op kn : Nat → Int32} {r S : Nat} : ∀ d : Nat, (∀ s, S ≤ s → s < S + d → kn (r * 180 + s) = 0) → mt_rp iv cn op kn r (S + d) = mt_rp iv cn op kn r S := by
  intro d
  induction d with
  | zero => intro _; rfl
  | succ d ih =>
    intro h
    rw [← Nat.add_assoc, mt_rp_n (h _ (by omega) (by omega))]
    exact ih (fun s h1 h2 => h s h1 (by omega))
theorem mt_rp_gap' {iv cn op kn : Nat → Int32} {r S S' : Nat} (hS : S ≤ S') (h : ∀ s, S ≤ s → s < S' → kn (r * 180 + s) = 0) : mt_rp iv cn op kn r S' = mt_rp iv cn op kn r S := by
  obtain ⟨d, rfl⟩ : ∃ d, S' = S + d := ⟨S' - S, by omega⟩
  exact mt_rp_gap d h
theorem mt_rp_cong {iv cn op kn iv' cn' op' kn' : Nat → Int32} {r : Nat} : ∀ S : Nat, (∀ s, s < S → (kn (r * 180 + s) = 0 ↔ kn' (r * 180 + s) = 0)) → (∀ s, s < S → ¬ kn (r * 180 + s) = 0 → iv s = iv' s ∧ cn s = cn' s ∧ op s = op' s) → mt_rp iv cn op kn r S = mt_rp iv' cn' op' kn' r S := by
  intro S
  induction S with
  | zero => intro _ _; rfl
  | succ S ih =>
    intro h1 h2
    have e := ih (fun s hs => h1 s (by omega)) (fun s hs => h2 s (by omega))
    have k := h1 S (by omega)
    by_cases z : kn (r * 180 + S) = 0
    · rw [mt_rp_n z, mt_rp_n (k.mp z), e]
    · obtain ⟨a, b, c⟩ := h2 S (by omega) z
      rw [mt_rp_y z, mt_rp_y (fun y => z (k.mpr y)), e, a, b, c]
-- a change as it may stand
def mt_v (mv nd ar : Int32) : Prop := (∃ j : Nat, j < 10 ∧ nd = nI j) ∧ (¬ mv = 0 → ∃ j : Nat, j < 10 ∧ ar = nI j)
theorem mt_ap_ok {mv nd ar : Int32} {t : mt_T} (hv : mt_v mv nd ar) (h : ∀ n, n < 10 → mt_ok (t.1 n)) : ∀ n, n < 10 → mt_ok ((mt_ap mv nd ar t).1 n) := by
  intro n hn
  unfold mt_ap
  by_cases z : mv = 0
  · rw [if_pos z]; exact h n hn
  · rw [if_neg z]
    by_cases y : mt_ab t.1 nd 10 ar = 0
    · rw [if_pos y]
      show mt_ok (upd t.1 nd.toNatClampNeg ar n)
      by_cases e : n = nd.toNatClampNeg
      · rw [e, pk_us]; exact Or.inr (hv.2 z)
      · rw [pk_un e]; exact h n hn
    · rw [if_neg y]; exact h n hn
theorem mt_rp_ok {iv cn op kn : Nat → Int32} {r : Nat} : ∀ S : Nat, (∀ s, s < S → ¬ kn (r * 180 + s) = 0 → mt_v (iv s) (cn s) (op s)) → ∀ n, n < 10 → mt_ok ((mt_rp iv cn op kn r S).1 n) := by
  intro S
  induction S with
  | zero => intro _ n _; exact Or.inl rfl
  | succ S ih =>
    intro h
    have e := ih (fun s hs => h s (by omega))
    by_cases z : kn (r * 180 + S) = 0
    · rw [mt_rp_n z]; exact e
    · rw [mt_rp_y z]; exact mt_ap_ok (h S (by omega) z) e
end
section
-- counting
def mt_ct (f : Nat → Int32) : Nat → Nat
  | 0 => 0
  | n + 1 => mt_ct f n + (if f n = 0 then 0 else 1)
theorem mt_ct_le (f : Nat → Int32) : ∀ n : Nat, mt_ct f n ≤ n := by
  intro n
  induction n with
  | zero => exact Nat.le_refl 0
  | succ n ih =>
    rw [mt_ct]
    by_cases z : f n = 0
    · rw [if_pos z]; omega
    · rw [if_neg z]; omega
theorem mt_ct_all (f : Nat → Int32) : ∀ n : Nat, n ≤ mt_ct f n → ∀ c, c < n → ¬ f c = 0 := by
  intro n
  induction n with
  | zero => intro _ c hc; omega
  | succ n ih =>
    intro h c hc
    rw [mt_ct] at h
    have l := mt_ct_le f n
    by_cases z : f n = 0
    · rw [if_pos z] at h; omega
    · rw [if_neg z] at h
      by_cases e : c = n
      · rw [e]; exact z
      · exact ih (by omega) c (by omega)
theorem mt_ct_cong (f g : Nat → Int32) : ∀ n : Nat, (∀ c, c < n → (f c = 0 ↔ g c = 0)) → mt_ct f n = mt_ct g n := by
  intro n
  induction n with
  | zero => intro _; rfl
  | succ n ih =>
    intro h
    rw [mt_ct, mt_ct, ih (fun c hc => h c (by omega))]
    have k := h n (by omega)
    by_cases z : f n = 0
    · rw [if_pos z, if_pos (k.mp z)]
    · rw [if_neg z, if_neg (fun y => z (k.mpr y))]
theorem mt_ct_upd (f : Nat → Int32) (c : Nat) (x : Int32) (hz : f c = 0) (hx : ¬ x = 0) : ∀ n : Nat, c < n → mt_ct (upd f c x) n = mt_ct f n + 1 := by
  intro n
  induction n with
  | zero => intro h; omega
  | succ n ih =>
    intro h
    rw [mt_ct, mt_ct]
    by_cases e : c = n
    · subst e
      rw [pk_us, if_neg hx, if_pos hz, mt_ct_cong (upd f c x) f c (fun d hd => by rw [pk_un (by omega)])]
    · rw [pk_un (fun q => e q.symm), ih (by omega)]
      omega
theorem mt_ct_0 (f : Nat → Int32) : ∀ n : Nat, (∀ c, c < n → f c = 0) → mt_ct f n = 0 := by
  intro n
  induction n with
  | zero => intro _; rfl
  | succ n ih =>
    intro h
    rw [mt_ct, ih (fun c hc => h c (by omega)), if_pos (h n (by omega))]
theorem mt_ct_bij (g : Nat → Int32) (sl : Nat → Nat) (N : Nat) : ∀ (m : Nat) (f : Nat → Int32), (∀ c, c < m → sl c < N) → (∀ c d, c < m → d < m → sl c = sl d → c = d) → (∀ s, s < N → (¬ f s = 0 ↔ ∃ c, c < m ∧ sl c = s ∧ ¬ g c = 0)) → mt_ct f N = mt_ct g m := by
  intro m
  induction m with
  | zero =>
    intro f _ _ h
    refine mt_ct_0 f N (fun s hs => ?_)
    by_cases z : f s = 0
    · exact z
    · obtain ⟨c, hc, _⟩ := (h s hs).mp z
      omega
  | succ m ih =>
    intro f hN hi h
    rw [mt_ct]
    by_cases z : g m = 0
    · rw [if_pos z]
      refine ih f (fun c hc => hN c (by omega)) (fun c d hc hd => hi c d (by omega) (by omega)) (fun s hs => ?_)
      rw [h s hs]
      refine ⟨fun ⟨c, hc, e, y⟩ => ⟨c, ?_, e, y⟩, fun ⟨c, hc, e, y⟩ => ⟨c, by omega, e, y⟩⟩
      by_cases q : c = m
      · rw [q] at y; exact absurd z y
      · omega
    · rw [if_neg z]
      have hf : ¬ f (sl m) = 0 := (h (sl m) (hN m (by omega))).mpr ⟨m, by omega, rfl, z⟩
      have e1 : mt_ct (upd f (sl m) 0) N = mt_ct g m := by
        refine ih _ (fun c hc => hN c (by omega)) (fun c d hc hd => hi c d (by omega) (by omega)) (fun s hs => ?_)
        by_cases q : s = sl m
        · rw [q, pk_us]
          refine ⟨fun y => absurd rfl y, fun ⟨c, hc, e, _⟩ => ?_⟩
          have := hi c m (by omega) (by omega) e
          omega
        · rw [pk_un q, h s hs]
          refine ⟨fun ⟨c, hc, e, y⟩ => ⟨c, ?_, e, y⟩, fun ⟨c, hc, e, y⟩ => ⟨c, by omega, e, y⟩⟩
          by_cases q2 : c = m
          · rw [q2] at e; exact absurd e.symm q
          · omega
      have e2 := mt_ct_upd (upd f (sl m) 0) (sl m) 1 pk_us (by decide) N (hN m (by omega))
      have e3 : mt_ct f N = mt_ct (upd (upd f (sl m) 0) (sl m) 1) N := by
        refine mt_ct_cong _ _ N (fun s hs => ?_)
        by_cases q : s = sl m
        · rw [q, pk_us]
          exact ⟨fun y => absurd y hf, fun y => absurd y (by decide)⟩
        · rw [pk_un q, pk_un q]
      omega
-- the walk of a sync, on either side
def mt_sy (A B : Nat) (a : Nat → Int32) : Nat → (Nat → Int32) × Nat
  | 0 => (a, 0)
  | i + 1 => if (mt_sy A B a i).1 (A + i) = 0 then mt_sy A B a i else if (mt_sy A B a i).1 (B + i) = 0 then (upd (mt_sy A B a i).1 (B + i) 1, (mt_sy A B a i).2 + 1) else mt_sy A B a i
def mt_mi (A B : Nat) (a : Nat → Int32) (s : Nat) : Int32 := if a (A + s) = 0 then 0 else if a (B + s) = 0 then 1 else 0
theorem mt_sy_spec {A B w : Nat} {a : Nat → Int32} (hw : A = B ∨ A + w ≤ B ∨ B + w ≤ A) : ∀ i : Nat, i ≤ w → (∀ j, (∀ s, s < i → j ≠ B + s) → (mt_sy A B a i).1 j = a j) ∧ (∀ s, s < i → ((mt_sy A B a i).1 (B + s) = 0 ↔ a (B + s) = 0 ∧ a (A + s) = 0)) ∧ (mt_sy A B a i).2 = mt_ct (mt_mi A B a) i := by
  intro i
  induction i with
  | zero => intro _; exact ⟨fun j _ => rfl, fun s hs => by omega, rfl⟩
  | succ i ih =>
    intro hi
    obtain ⟨h1, h2, h3⟩ := ih (by omega)
    have eA : (mt_sy A B a i).1 (A + i) = a (A + i) := h1 _ (fun s hs => by omega)
    have eB : (mt_sy A B a i).1 (B + i) = a (B + i) := h1 _ (fun s hs => by omega)
    by_cases z : a (A + i) = 0
    · have e : mt_sy A B a (i + 1) = mt_sy A B a i := by rw [mt_sy, eA, if_pos z]
      have e2 : mt_mi A B a i = 0 := by rw [mt_mi, if_pos z]
      rw [e]
      refine ⟨fun j hj => h1 j (fun s hs => hj s (by omega)), fun s hs => ?_, ?_⟩
      · by_cases q : s = i
        · rw [q, eB]; exact ⟨fun y => ⟨y, z⟩, fun y => y.1⟩
        · exact h2 s (by omega)
      · rw [h3, mt_ct, if_pos e2]; rfl
    · by_cases y : a (B + i) = 0
      · have e : mt_sy A B a (i + 1) = (upd (mt_sy A B a i).1 (B + i) 1, (mt_sy A B a i).2 + 1) := by rw [mt_sy, eA, if_neg z, eB, if_pos y]
        have e2 : mt_mi A B a i = 1 := by rw [mt_mi, if_neg z, if_pos y]
        rw [e]
        refine ⟨fun j hj => ?_, fun s hs => ?_, ?_⟩
        · show upd (mt_sy A B a i).1 (B + i) 1 j = a j
          rw [pk_un (hj i (by omega))]
          exact h1 j (fun s hs => hj s (by omega))
        · show upd (mt_sy A B a i).1 (B + i) 1 (B + s) = 0 ↔ _
          by_cases q : s = i
          · rw [q, pk_us]; exact ⟨fun x => absurd x (by decide), fun x => absurd x.2 z⟩
          · rw [pk_un (by omega)]; exact h2 s (by omega)
        · show (mt_sy A B a i).2 + 1 = _
          rw [h3, mt_ct, e2, if_neg (by decide)]
      · have e : mt_sy A B a (i + 1) = mt_sy A B a i := by rw [mt_sy, eA, if_neg z, eB, if_neg y]
        have e2 : mt_mi A B a i = 0 := by rw [mt_mi, if_neg z, if_neg y]
        rw [e]
        refine ⟨fun j hj => h1 j (fun s hs => hj s (by omega)), fun s hs => ?_, ?_⟩
        · by_cases q : s = i
          · rw [q, eB]; exact ⟨fun x => absurd x y, fun x => absurd x.1 y⟩
          · exact h2 s (by omega)
        · rw [h3, mt_ct, if_pos e2]; rfl
-- the changes on both sides: change c has slot sl c
def mt_core (m : Nat) (sl : Nat → Nat) (iv cn op kn og st mv nd ar kw : Nat → Int32) : Prop :=
  m ≤ 60 ∧ (∀ c, c < m → og c = nI (sl c % 3) ∧ st c = nI (sl c / 3 + 1) ∧ sl c < 3 * m)
  ∧ (∀ c, c < m → iv (sl c) = mv c ∧ cn (sl c) = nd c ∧ op (sl c) = ar c ∧ mt_v (mv c) (nd c) (ar c))
  ∧ (∀ c, c < m → ¬ kw ((sl c % 3) * 60 + c) = 0)
  ∧ (∀ c d, c < d → d < m → sl c % 3 = sl d % 3 → sl c < sl d)
  ∧ (∀ r s, r < 3 → s < 180 → (¬ kn (r * 180 + s) = 0 ↔ ∃ c, c < m ∧ sl c = s ∧ ¬ kw (r * 60 + c) = 0))
  ∧ (∀ r c, r < 3 → m ≤ c → c < 60 → kw (r * 60 + c) = 0)
section
variable {m : Nat} {sl : Nat → Nat} {iv cn op kn og st mv nd ar kw : Nat → Int32}
theorem mt_core_inj (h : mt_core m sl iv cn op kn og st mv nd ar kw) {c d : Nat} (hc : c < m) (hd : d < m) (e : sl c = sl d) : c = d := by
  obtain ⟨_, _, _, _, h5, _, _⟩ := h
  by_cases l : c < d
  · have := h5 c d l hd (by rw [e]); omega
  · by_cases l2 : d < c
    · have := h5 d c l2 hc (by rw [e]); omega
    · omega
theorem mt_core_v (h : mt_core m sl iv cn op kn og st mv nd ar kw) {r s : Nat} (hr : r < 3) (hs : s < 180) (z : ¬ kn (r * 180 + s) = 0) : mt_v (iv s) (cn s) (op s) := by
  obtain ⟨_, _, h3, _, _, h6, _⟩ := h
  obtain ⟨c, hc, e, _⟩ := (h6 r s hr hs).mp z
  obtain ⟨a, b, d, v⟩ := h3 c hc
  rw [← e, a, b, d]; exact v
theorem mt_core_sl (h : mt_core m sl iv cn op kn og st mv nd ar kw) {c : Nat} (hc : c < m) : sl c < 180 := by
  have := (h.2.1 c hc).2.2
  have := h.1
  omega
theorem mt_core_kn (h : mt_core m sl iv cn op kn og st mv nd ar kw) {r c : Nat} (hr : r < 3) (hc : c < m) : (¬ kn (r * 180 + sl c) = 0 ↔ ¬ kw (r * 60 + c) = 0) := by
  rw [h.2.2.2.2.2.1 r (sl c) hr (mt_core_sl h hc)]
  refine ⟨fun ⟨d, hd, e, y⟩ => ?_, fun y => ⟨c, hc, rfl, y⟩⟩
  rw [← mt_core_inj h hd hc e]; exact y
theorem mt_core_ok (h : mt_core m sl iv cn op kn og st mv nd ar kw) {r S : Nat} (hr : r < 3) (hS : S ≤ 180) : ∀ n, n < 10 → mt_ok ((mt_rp iv cn op kn r S).1 n) :=
  mt_rp_ok S (fun s hs z => mt_core_v h hr (by omega) z)
-- the number of the next stamp, less one
theorem mt_max (kw : Nat → Int32) (sl : Nat → Nat) (r : Nat) : ∀ m : Nat, ∃ q, (∀ c, c < m → ¬ kw (r * 60 + c) = 0 → sl c / 3 + 1 ≤ q) ∧ (q = 0 ∨ ∃ c, c < m ∧ ¬ kw (r * 60 + c) = 0 ∧ sl c / 3 + 1 = q) := by
  intro m
  induction m with
  | zero => exact ⟨0, fun c hc => by omega, Or.inl rfl⟩
  | succ m ih =>
    obtain ⟨q, h1, h2⟩ := ih
    by_cases z : kw (r * 60 + m) = 0
    · refine ⟨q, fun c hc y => ?_, h2.imp id (fun ⟨c, hc, y⟩ => ⟨c, by omega, y⟩)⟩
      by_cases e : c = m
      · rw [e] at y; exact absurd z y
      · exact h1 c (by omega) y
    · by_cases l : sl m / 3 + 1 ≤ q
      · refine ⟨q, fun c hc y => ?_, h2.imp id (fun ⟨c, hc, y⟩ => ⟨c, by omega, y⟩)⟩
        by_cases e : c = m
        · rw [e]; exact l
        · exact h1 c (by omega) y
      · refine ⟨sl m / 3 + 1, fun c hc y => ?_, Or.inr ⟨m, by omega, z, rfl⟩⟩
        by_cases e : c = m
        · rw [e]; exact Nat.le_refl _
        · have := h1 c (by omega) y; omega
def mt_q (m : Nat) (sl : Nat → Nat) (kw : Nat → Int32) (r q : Nat) : Prop := (∀ c, c < m → ¬ kw (r * 60 + c) = 0 → sl c / 3 + 1 ≤ q) ∧ (q = 0 ∨ ∃ c, c < m ∧ ¬ kw (r * 60 + c) = 0 ∧ sl c / 3 + 1 = q)
theorem mt_q_le (h : mt_core m sl iv cn op kn og st mv nd ar kw) {r q : Nat} (hq : mt_q m sl kw r q) : q ≤ m := by
  rcases hq.2 with e | ⟨c, hc, _, e⟩
  · omega
  · have := (h.2.1 c hc).2.2; omega
theorem mt_q_uniq {r q p : Nat} (hq : mt_q m sl kw r q) (hp : mt_q m sl kw r p) : p = q := by
  obtain ⟨a1, a2⟩ := hq
  obtain ⟨b1, b2⟩ := hp
  rcases a2 with e | ⟨c, hc, y, e⟩
  · rcases b2 with e' | ⟨d, hd, y', e'⟩
    · omega
    · have := a1 d hd y'; omega
  · have := b1 c hc y
    rcases b2 with e' | ⟨d, hd, y', e'⟩
    · omega
    · have := a1 d hd y'; omega
-- all that r knows lies below the next slot
theorem mt_q_lt (h : mt_core m sl iv cn op kn og st mv nd ar kw) {r q s : Nat} (hr : r < 3) (hq : mt_q m sl kw r q) (hs : s < 180) (z : ¬ kn (r * 180 + s) = 0) : s < 3 * q + r := by
  obtain ⟨c, hc, e, y⟩ := (h.2.2.2.2.2.1 r s hr hs).mp z
  have := hq.1 c hc y
  omega
def mt_sn (sl : Nat → Nat) (m t : Nat) : Nat → Nat := fun c => if c = m then t else sl c
theorem mt_sn_s {sl : Nat → Nat} {m t : Nat} : mt_sn sl m t m = t := if_pos rfl
theorem mt_sn_n {sl : Nat → Nat} {m t c : Nat} (h : c ≠ m) : mt_sn sl m t c = sl c := if_neg h
-- no change has the next slot yet
theorem mt_q_new (h : mt_core m sl iv cn op kn og st mv nd ar kw) {r q c : Nat} (hr : r < 3) (hq : mt_q m sl kw r q) (hc : c < m) : sl c ≠ 3 * q + r := by
  intro e
  have h4 := h.2.2.2.1 c hc
  have e3 : sl c % 3 = r := by omega
  rw [e3] at h4
  have := hq.1 c hc h4
  omega
theorem mt_core_new (h : mt_core m sl iv cn op kn og st mv nd ar kw) {r q : Nat} (hr : r < 3) (hm : m < 60) (hq : mt_q m sl kw r q) {b x y : Int32} (hv : mt_v b x y) :
    mt_core (m + 1) (mt_sn sl m (3 * q + r)) (upd iv (3 * q + r) b) (upd cn (3 * q + r) x) (upd op (3 * q + r) y) (upd kn (r * 180 + (3 * q + r)) 1) (upd og m (nI r)) (upd st m (nI (q + 1))) (upd mv m b) (upd nd m x) (upd ar m y) (upd kw (r * 60 + m) 1) := by
  have ql := mt_q_le h hq
  have hnew := fun c hc => mt_q_new h (c := c) hr hq hc
  obtain ⟨h1, h2, h3, h4, h5, h6, h7⟩ := h
  refine ⟨by omega, fun c hc => ?_, fun c hc => ?_, fun c hc => ?_, fun c d hcd hd he => ?_, fun r' s hr' hs => ?_, fun r' c hr' hc hc' => ?_⟩
  · by_cases e : c = m
    · subst e
      rw [mt_sn_s, pk_us, pk_us]
      refine ⟨?_, ?_, by omega⟩
      · rw [show (3 * q + r) % 3 = r from by omega]
      · rw [show (3 * q + r) / 3 = q from by omega]
    · rw [mt_sn_n e, pk_un e, pk_un e]
      have := h2 c (by omega)
      exact ⟨this.1, this.2.1, by omega⟩
  · by_cases e : c = m
    · subst e
      rw [mt_sn_s, pk_us, pk_us, pk_us, pk_us, pk_us, pk_us]
      exact ⟨rfl, rfl, rfl, hv⟩
    · have n := hnew c (by omega)
      rw [mt_sn_n e, pk_un n, pk_un n, pk_un n, pk_un e, pk_un e, pk_un e]
      exact h3 c (by omega)
  · by_cases e : c = m
    · subst e
      rw [mt_sn_s, show (3 * q + r) % 3 = r from by omega, pk_us]
      decide
    · rw [mt_sn_n e, pk_un (by omega)]
      exact h4 c (by omega)
  · have n1 : c ≠ m := by omega
    rw [mt_sn_n n1] at he ⊢
    by_cases e : d = m
    · subst e
      rw [mt_sn_s] at he ⊢
      have k := h4 c (by omega)
      rw [show sl c % 3 = r from by omega] at k
      have := hq.1 c (by omega) k
      omega
    · rw [mt_sn_n e] at he ⊢
      exact h5 c d hcd (by omega) he
  · by_cases e : r' * 180 + s = r * 180 + (3 * q + r)
    · have er : r' = r := by omega
      have es : s = 3 * q + r := by omega
      subst er es
      rw [pk_us]
      exact ⟨fun _ => ⟨m, by omega, mt_sn_s, by rw [pk_us]; decide⟩, fun _ => by decide⟩
    · rw [pk_un e, h6 r' s hr' hs]
      refine ⟨fun ⟨c, hc, es, k⟩ => ⟨c, by omega, ?_, ?_⟩, fun ⟨c, hc, es, k⟩ => ?_⟩
      · rw [mt_sn_n (by omega)]; exact es
      · rw [pk_un (by omega)]; exact k
      · by_cases ec : c = m
        · subst ec
          rw [mt_sn_s] at es
          rw [pk_un (by omega)] at k
          exact absurd (h7 r' c hr' (Nat.le_refl c) hm) k
        · rw [mt_sn_n ec] at es
          rw [pk_un (by omega)] at k
          exact ⟨c, by omega, es, k⟩
  · rw [pk_un (by omega)]
    exact h7 r' c hr' (by omega) hc'
-- the replays after a make
theorem mt_new_o (h : mt_core m sl iv cn op kn og st mv nd ar kw) {r q : Nat} (hr : r < 3) (hm : m < 60) (hq : mt_q m sl kw r q) (b x y : Int32) {r' : Nat} (hr' : r' < 3) (ne : r' ≠ r) :
    mt_rp (upd iv (3 * q + r) b) (upd cn (3 * q + r) x) (upd op (3 * q + r) y) (upd kn (r * 180 + (3 * q + r)) 1) r' 180 = mt_rp iv cn op kn r' 180 := by
  have ql := mt_q_le h hq
  refine (mt_rp_cong 180 (fun s hs => ?_) (fun s hs z => ?_)).symm
  · rw [pk_un (by omega)]
  · have n : s ≠ 3 * q + r := by
      intro e
      obtain ⟨c, hc, es, _⟩ := (h.2.2.2.2.2.1 r' s hr' hs).mp z
      exact mt_q_new h hr hq hc (es.trans e)
    rw [pk_un n, pk_un n, pk_un n]
    exact ⟨rfl, rfl, rfl⟩
theorem mt_new_t (h : mt_core m sl iv cn op kn og st mv nd ar kw) {r q : Nat} (hr : r < 3) (hm : m < 60) (hq : mt_q m sl kw r q) (b x y : Int32) :
    mt_rp (upd iv (3 * q + r) b) (upd cn (3 * q + r) x) (upd op (3 * q + r) y) (upd kn (r * 180 + (3 * q + r)) 1) r (3 * q + r) = mt_rp iv cn op kn r 180 := by
  have ql := mt_q_le h hq
  have e1 : mt_rp iv cn op kn r 180 = mt_rp iv cn op kn r (3 * q + r) := by
    refine mt_rp_gap' (by omega) (fun s h1 h2 => ?_)
    by_cases z : kn (r * 180 + s) = 0
    · exact z
    · have := mt_q_lt h hr hq h2 z; omega
  rw [e1]
  refine (mt_rp_cong (3 * q + r) (fun s hs => ?_) (fun s hs z => ?_)).symm
  · rw [pk_un (by omega)]
  · have n : s ≠ 3 * q + r := by omega
    rw [pk_un n, pk_un n, pk_un n]
    exact ⟨rfl, rfl, rfl⟩
theorem mt_new_s (h : mt_core m sl iv cn op kn og st mv nd ar kw) {r q : Nat} (hr : r < 3) (hm : m < 60) (hq : mt_q m sl kw r q) (b x y : Int32) :
    mt_rp (upd iv (3 * q + r) b) (upd cn (3 * q + r) x) (upd op (3 * q + r) y) (upd kn (r * 180 + (3 * q + r)) 1) r 180 = mt_ap b x y (mt_rp iv cn op kn r 180) := by
  have ql := mt_q_le h hq
  rw [mt_rp_gap' (S := 3 * q + r + 1) (by omega) (fun s h1 h2 => ?_), mt_rp_y (by rw [pk_us]; decide), mt_new_t h hr hm hq b x y, pk_us, pk_us, pk_us]
  rw [pk_un (by omega)]
  by_cases z : kn (r * 180 + s) = 0
  · exact z
  · have := mt_q_lt h hr hq h2 z; omega
end
end
section
theorem mt_dummy : True := trivial
end
