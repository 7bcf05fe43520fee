section
variable {m : Nat} {sl : Nat → Nat} {iv cn op kn og st mv nd ar kw : Nat → Int32} {sk : Int32} {pa la dn oq ol : Nat → Int32}
theorem mt_q_bd (h : mt_core m sl iv cn op kn og st mv nd ar kw) {r i p : Nat} (hi : i ≤ m) (hp : mt_q i sl kw r p) : p ≤ 60 := by
  have hm := h.1
  rcases hp.2 with e | ⟨c, hc, _, e⟩
  · omega
  · have := (h.2.1 c (by omega)).2.2; omega
theorem mt_Y_m6 (h : mt_core m sl iv cn op kn og st mv nd ar kw) {r q : Nat} (hr : r < 3) (hm : m < 60) (hq : mt_q m sl kw r q) {b x y : Int32} (post : Int32 → SY → Prop)
    (H : post (nI m) (nI (m + 1), sk, upd og m (nI r), upd st m (nI (q + 1)), upd mv m (vp_nar .boolean b), upd nd m x, upd ar m y, upd kw (r * 60 + m) 1, pa, la, dn, oq, ol)) :
    ∀ (d i n p : Nat), i + d = m → d < n → mt_q i sl kw r p → wY_make_6 post (nI r) b x y (nI m) sk og st mv nd ar kw pa la dn oq ol n (nI p) (nI i) := by
  intro d
  induction d with
  | zero =>
    intro i n p hi hn hp
    obtain ⟨n, rfl⟩ : ∃ k, n = k + 1 := ⟨n - 1, by omega⟩
    obtain rfl : i = m := by omega
    obtain rfl : p = q := mt_q_uniq hq hp
    have i1 : vp_in (nI i) 60 := vp_in_nI hm (by decide)
    have e1 : (nI i).toNatClampNeg = i := mt_cl (by omega)
    refine br_t (nI_le (Nat.le_refl i) (by omega)) ?_
    refine ⟨i1, nm_r (by rw [e1]) ⟨i1, nm_r (by rw [e1, nI_1]) ⟨i1, nm_r (by rw [e1]) ⟨i1, nm_r (by rw [e1]) ⟨i1, nm_r (by rw [e1]) ⟨mt_in60 hr hm, nm_r (by rw [mt_c60 hr hm, mt_b1]) (nm_r (nI_1 i) ?_)⟩⟩⟩⟩⟩⟩
    rw [nI_pred]
    exact H
  | succ d ih =>
    intro i n p hi hn hp
    obtain ⟨n, rfl⟩ : ∃ k, n = k + 1 := ⟨n - 1, by omega⟩
    have hi2 : i < m := by omega
    have hpb := mt_q_bd h (by omega) hp
    obtain ⟨_, a2, a3⟩ := h.2.1 i hi2
    have i1 : vp_in (nI i) 60 := vp_in_nI (by omega) (by decide)
    refine br_f (nI_ge hi2 (by omega)) ⟨mt_in60 hr (by omega), ?_⟩
    rw [mt_c60 hr (by omega)]
    by_cases z : kw (r * 60 + i) = 0
    · refine br_t z (nm_r (nI_1 i) (ih (i + 1) n p (by omega) (by omega) ⟨fun c hc k => ?_, hp.2.imp id (fun ⟨c, hc, k⟩ => ⟨c, by omega, k⟩)⟩))
      by_cases e : c = i
      · rw [e] at k; exact absurd z k
      · exact hp.1 c (by omega) k
    · refine br_f z ⟨i1, ?_⟩
      rw [mt_cl (by omega), a2]
      refine pk_le (sl i / 3 + 1) p (fun l => nm_r (nI_1 i) (ih (i + 1) n p (by omega) (by omega) ⟨fun c hc k => ?_, hp.2.imp id (fun ⟨c, hc, k⟩ => ⟨c, by omega, k⟩)⟩)) (fun l => ⟨i1, nm_e (nm_r (nI_1 i) (ih (i + 1) n (sl i / 3 + 1) (by omega) (by omega) ⟨fun c hc k => ?_, Or.inr ⟨i, by omega, z, rfl⟩⟩))⟩)
      · by_cases e : c = i
        · rw [e]; exact l
        · exact hp.1 c (by omega) k
      · by_cases e : c = i
        · rw [e]; exact Nat.le_refl _
        · have := hp.1 c (by omega) k; omega
theorem mt_Y_mk (h : mt_core m sl iv cn op kn og st mv nd ar kw) {r q : Nat} (hr : r < 3) (hm : m < 60) (hq : mt_q m sl kw r q) {b x y : Int32} (post : Int32 → SY → Prop)
    (H : post (nI m) (nI (m + 1), sk, upd og m (nI r), upd st m (nI (q + 1)), upd mv m (vp_nar .boolean b), upd nd m x, upd ar m y, upd kw (r * 60 + m) 1, pa, la, dn, oq, ol)) :
    wpY_make post (nI m, sk, og, st, mv, nd, ar, kw, pa, la, dn, oq, ol) (nI r) b x y :=
  ⟨m + 1, mt_Y_m6 h hr hm hq post H m 0 (m + 1) 0 (by omega) (by omega) ⟨fun c hc => by omega, Or.inl rfl⟩⟩
theorem mt_Y_sk (h : mt_core m sl iv cn op kn og st mv nd ar kw) {r : Nat} (hr : r < 3) (post : Int32 → SY → Prop)
    (H : ∀ (sk : Int32) (pa la dn : Nat → Int32), mt_VY pa la sk (mt_rp iv cn op kn r 180) → post sk (nI m, sk, og, st, mv, nd, ar, kw, pa, la, dn, oq, ol)) :
    wpY_skipped post (nI m, sk, og, st, mv, nd, ar, kw, pa, la, dn, oq, ol) (nI r) := by
  unfold wpY_skipped
  dsimp only
  refine mt_Yr_t hr (br_t rfl ?_)
  exact mt_Y_co h hr (-1) _ (fun x3 sk pa la dn hV _ _ => H sk pa la dn hV)
theorem mt_Y_dl (h : mt_core m sl iv cn op kn og st mv nd ar kw) {f t : Nat} (hf : f < 3) (ht : t < 3) (post : Int32 → SY → Prop)
    (hN : (∀ c, c < m → sl c % 3 = f → ¬ kw (t * 60 + c) = 0) → post (-1) (nI m, sk, og, st, mv, nd, ar, kw, pa, la, dn, oq, ol))
    (hY : ∀ c, c < m → sl c % 3 = f → kw (t * 60 + c) = 0 → (∀ d, d < c → sl d % 3 = f → ¬ kw (t * 60 + d) = 0) → ∃ kn' : Nat → Int32, mt_core m sl iv cn op kn' og st mv nd ar (upd kw (t * 60 + c) 1) ∧ ∀ (sk : Int32) (pa la dn : Nat → Int32), mt_VY pa la sk (mt_rp iv cn op kn' t 180) → post sk (nI m, sk, og, st, mv, nd, ar, upd kw (t * 60 + c) 1, pa, la, dn, oq, ol)) :
    ∀ (d i n : Nat), i + d = m → d < n → (∀ c, c < i → sl c % 3 = f → ¬ kw (t * 60 + c) = 0) → wY_deliver_18 post (nI f) (nI t) (nI m) sk og st mv nd ar kw pa la dn oq ol n (nI i) := by
  have hm := h.1
  intro d
  induction d with
  | zero =>
    intro i n hi hn hz
    obtain ⟨n, rfl⟩ : ∃ k, n = k + 1 := ⟨n - 1, by omega⟩
    obtain rfl : i = m := by omega
    exact br_t (nI_le (Nat.le_refl i) (by omega)) (hN hz)
  | succ d ih =>
    intro i n hi hn hz
    obtain ⟨n, rfl⟩ : ∃ k, n = k + 1 := ⟨n - 1, by omega⟩
    have hi2 : i < m := by omega
    obtain ⟨a1, _, _⟩ := h.2.1 i hi2
    have go : (sl i % 3 = f → ¬ kw (t * 60 + i) = 0) → wY_deliver_18 post (nI f) (nI t) (nI m) sk og st mv nd ar kw pa la dn oq ol n (nI (i + 1)) := by
      intro g
      refine ih (i + 1) n (by omega) (by omega) (fun c hc => ?_)
      by_cases e : c = i
      · rw [e]; exact g
      · exact hz c (by omega)
    refine br_f (nI_ge hi2 (by omega)) ⟨vp_in_nI (by omega) (by decide), ?_⟩
    rw [mt_cl (by omega), a1, mt_c60 ht (by omega)]
    refine pk_eq (sl i % 3) f (fun e => ⟨mt_in60 ht (by omega), ?_⟩) (fun e => nm_r (nI_1 i) (go (fun k => absurd k e)))
    by_cases z : kw (t * 60 + i) = 0
    · refine br_t z ⟨mt_in60 ht (by omega), nm_r (by rw [mt_b1]) ?_⟩
      obtain ⟨kn', hc, H⟩ := hY i hi2 e z hz
      exact mt_Y_sk hc ht _ H
    · exact br_f z (nm_r (nI_1 i) (go (fun _ => z)))
theorem mt_Y_sy {f t : Nat} (hf : f < 3) (ht : t < 3) (hm : m ≤ 60) (kw0 : Nat → Int32) (post : Int32 → SY → Prop)
    (H : post (nI (mt_sy (f * 60) (t * 60) kw0 m).2) (nI m, sk, og, st, mv, nd, ar, (mt_sy (f * 60) (t * 60) kw0 m).1, pa, la, dn, oq, ol)) :
    ∀ (d i n : Nat), i + d = m → d < n → wY_sync_21 post (nI f) (nI t) (nI m) sk n (nI (mt_sy (f * 60) (t * 60) kw0 i).2) (nI i) og st mv nd ar (mt_sy (f * 60) (t * 60) kw0 i).1 pa la dn oq ol := by
  intro d
  induction d with
  | zero =>
    intro i n hi hn
    obtain ⟨n, rfl⟩ : ∃ k, n = k + 1 := ⟨n - 1, by omega⟩
    obtain rfl : i = m := by omega
    exact br_t (nI_le (Nat.le_refl i) (by omega)) H
  | succ d ih =>
    intro i n hi hn
    obtain ⟨n, rfl⟩ : ∃ k, n = k + 1 := ⟨n - 1, by omega⟩
    have hi6 : i < 60 := by omega
    have g := ih (i + 1) n (by omega) (by omega)
    refine br_f (nI_ge (by omega) (by omega)) ⟨mt_in60 hf hi6, ?_⟩
    rw [mt_c60 hf hi6, mt_c60 ht hi6]
    by_cases z : (mt_sy (f * 60) (t * 60) kw0 i).1 (f * 60 + i) = 0
    · rw [mt_sy, if_pos z] at g
      exact br_t z (nm_r (nI_1 i) g)
    · refine br_f z ⟨mt_in60 ht hi6, ?_⟩
      by_cases y : (mt_sy (f * 60) (t * 60) kw0 i).1 (t * 60 + i) = 0
      · rw [mt_sy, if_neg z, if_pos y] at g
        exact br_t y ⟨mt_in60 ht hi6, nm_r (by rw [mt_b1]) (nm_r (nI_1 _) (nm_r (nI_1 i) g))⟩
      · rw [mt_sy, if_neg z, if_neg y] at g
        exact br_f y (nm_r (nI_1 i) g)
-- learning one change; learning all of another's
theorem mt_core_ln (h : mt_core m sl iv cn op kn og st mv nd ar kw) {t c : Nat} (ht : t < 3) (hc : c < m) : mt_core m sl iv cn op (upd kn (t * 180 + sl c) 1) og st mv nd ar (upd kw (t * 60 + c) 1) := by
  have hsl := mt_core_sl h hc
  have inj := fun d hd => mt_core_inj h (c := d) (d := c) hd hc
  have sld := fun d hd => mt_core_sl h (c := d) hd
  obtain ⟨h1, h2, h3, h4, h5, h6, h7⟩ := h
  refine ⟨h1, h2, h3, fun d hd => ?_, h5, fun r s hr hs => ?_, fun r d hr hd hd' => ?_⟩
  · by_cases e : sl d % 3 * 60 + d = t * 60 + c
    · rw [e, pk_us]; decide
    · rw [pk_un e]; exact h4 d hd
  · by_cases e : r * 180 + s = t * 180 + sl c
    · have er : r = t := by omega
      have es : sl c = s := by omega
      rw [e, pk_us]
      refine ⟨fun _ => ⟨c, hc, es, ?_⟩, fun _ => by decide⟩
      rw [er, pk_us]; decide
    · rw [pk_un e, h6 r s hr hs]
      refine ⟨fun ⟨d, hd, es, k⟩ => ⟨d, hd, es, ?_⟩, fun ⟨d, hd, es, k⟩ => ⟨d, hd, es, ?_⟩⟩
      · by_cases q : r * 60 + d = t * 60 + c
        · rw [q, pk_us]; decide
        · rw [pk_un q]; exact k
      · by_cases q : r * 60 + d = t * 60 + c
        · have er : r = t := by omega
          have ed : d = c := by omega
          subst er ed es
          exact absurd rfl e
        · rw [pk_un q] at k; exact k
  · rw [pk_un (by omega)]; exact h7 r d hr hd hd'
theorem mt_or {a b : Int32} : ¬ (a = 0 ∧ b = 0) ↔ (¬ a = 0 ∨ ¬ b = 0) := by
  by_cases h : a = 0
  · by_cases g : b = 0
    · exact ⟨fun k => absurd ⟨h, g⟩ k, fun k => k.elim (fun k => absurd h k) (fun k => absurd g k)⟩
    · exact ⟨fun _ => Or.inr g, fun _ k => g k.2⟩
  · exact ⟨fun _ => Or.inl h, fun _ k => h k.1⟩
theorem mt_core_sy (h : mt_core m sl iv cn op kn og st mv nd ar kw) {f t : Nat} (hf : f < 3) (ht : t < 3) : mt_core m sl iv cn op (mt_sy (f * 180) (t * 180) kn 180).1 og st mv nd ar (mt_sy (f * 60) (t * 60) kw m).1 := by
  obtain ⟨h1, h2, h3, h4, h5, h6, h7⟩ := h
  obtain ⟨x1, x2, _⟩ := mt_sy_spec (A := f * 180) (B := t * 180) (w := 180) (a := kn) (by omega) 180 (by omega)
  obtain ⟨y1, y2, _⟩ := mt_sy_spec (A := f * 60) (B := t * 60) (w := 60) (a := kw) (by omega) m h1
  have y1' : ∀ r c, r ≠ t → c < 60 → (mt_sy (f * 60) (t * 60) kw m).1 (r * 60 + c) = kw (r * 60 + c) := fun r c hr hc => y1 _ (fun s hs => by omega)
  have y2' : ∀ c, c < m → (¬ (mt_sy (f * 60) (t * 60) kw m).1 (t * 60 + c) = 0 ↔ (¬ kw (t * 60 + c) = 0 ∨ ¬ kw (f * 60 + c) = 0)) := fun c hc => by rw [y2 c hc, mt_or]
  refine ⟨h1, h2, h3, fun d hd => ?_, h5, fun r s hr hs => ?_, fun r d hr hd hd' => ?_⟩
  · by_cases e : sl d % 3 = t
    · have k := h4 d hd
      rw [e] at k ⊢
      exact (y2' d hd).mpr (Or.inl k)
    · rw [y1' _ _ e (by omega)]; exact h4 d hd
  · by_cases e : r = t
    · subst e
      rw [x2 s hs, mt_or, h6 r s hr hs, h6 f s hf hs]
      refine ⟨fun g => ?_, fun ⟨c, hc, es, k⟩ => ?_⟩
      · rcases g with ⟨c, hc, es, k⟩ | ⟨c, hc, es, k⟩
        · exact ⟨c, hc, es, (y2' c hc).mpr (Or.inl k)⟩
        · exact ⟨c, hc, es, (y2' c hc).mpr (Or.inr k)⟩
      · rcases (y2' c hc).mp k with k | k
        · exact Or.inl ⟨c, hc, es, k⟩
        · exact Or.inr ⟨c, hc, es, k⟩
    · rw [x1 (r * 180 + s) (fun s' hs' => by omega), h6 r s hr hs]
      refine ⟨fun ⟨c, hc, es, k⟩ => ⟨c, hc, es, ?_⟩, fun ⟨c, hc, es, k⟩ => ⟨c, hc, es, ?_⟩⟩
      · rw [y1' r c e (by omega)]; exact k
      · rw [y1' r c e (by omega)] at k; exact k
  · rw [y1 (r * 60 + d) (fun s hs => by omega)]; exact h7 r d hr hd hd'
theorem mt_mi_ne {A B s : Nat} {a : Nat → Int32} : ¬ mt_mi A B a s = 0 ↔ (¬ a (A + s) = 0 ∧ a (B + s) = 0) := by
  unfold mt_mi
  by_cases z : a (A + s) = 0
  · rw [if_pos z]; exact ⟨fun k => absurd rfl k, fun k => absurd z k.1⟩
  · rw [if_neg z]
    by_cases y : a (B + s) = 0
    · rw [if_pos y]; exact ⟨fun _ => ⟨z, y⟩, fun _ => by decide⟩
    · rw [if_neg y]; exact ⟨fun k => absurd rfl k, fun k => absurd k.2 y⟩
theorem mt_sy_ct (h : mt_core m sl iv cn op kn og st mv nd ar kw) {f t : Nat} (hf : f < 3) (ht : t < 3) : (mt_sy (f * 180) (t * 180) kn 180).2 = (mt_sy (f * 60) (t * 60) kw m).2 := by
  rw [(mt_sy_spec (A := f * 180) (B := t * 180) (w := 180) (a := kn) (by omega) 180 (by omega)).2.2, (mt_sy_spec (A := f * 60) (B := t * 60) (w := 60) (a := kw) (by omega) m h.1).2.2]
  refine mt_ct_bij _ sl 180 m _ (fun c hc => mt_core_sl h hc) (fun c d hc hd => mt_core_inj h hc hd) (fun s hs => ?_)
  rw [mt_mi_ne]
  refine ⟨fun ⟨a, b⟩ => ?_, fun ⟨c, hc, es, k⟩ => ?_⟩
  · obtain ⟨c, hc, es, k⟩ := (h.2.2.2.2.2.1 f s hf hs).mp a
    refine ⟨c, hc, es, mt_mi_ne.mpr ⟨k, ?_⟩⟩
    by_cases z : kw (t * 60 + c) = 0
    · exact z
    · have := (mt_core_kn h ht hc).mpr z
      rw [es] at this
      exact absurd b this
  · obtain ⟨k1, k2⟩ := mt_mi_ne.mp k
    rw [← es]
    refine ⟨(mt_core_kn h hf hc).mpr k1, ?_⟩
    by_cases z : kn (t * 180 + sl c) = 0
    · exact z
    · exact absurd k2 ((mt_core_kn h ht hc).mp z)
-- the replays of the others stay
theorem mt_rp_keep {kn' : Nat → Int32} {r : Nat} (h : ∀ s, s < 180 → kn' (r * 180 + s) = kn (r * 180 + s)) : mt_rp iv cn op kn' r 180 = mt_rp iv cn op kn r 180 :=
  mt_rp_cong 180 (fun s hs => by rw [h s hs]) (fun _ _ _ => ⟨rfl, rfl, rfl⟩)
end
