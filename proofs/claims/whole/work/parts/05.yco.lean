section
variable {m : Nat} {sl : Nat → Nat} {iv cn op kn og st mv nd ar kw : Nat → Int32} {oq ol : Nat → Int32}
-- one change carried out; J: what follows
theorem mt_Y_one {sk : Int32} {pa la dn : Nat → Int32} {c i : Nat} (hc : c < 60) (hv : mt_v (mv c) (nd c) (ar c)) {T : mt_T} (hT : mt_VY pa la sk T) (ho : ∀ n, n < 10 → mt_ok (T.1 n)) (post : Int32 → SY → Prop)
    (J : Int32 → Int32 → Int32 → (Nat → Int32) → (Nat → Int32) → (Nat → Int32) → (Nat → Int32) → (Nat → Int32) → (Nat → Int32) → (Nat → Int32) → (Nat → Int32) → (Nat → Int32) → (Nat → Int32) → (Nat → Int32) → Prop) (x1 x2 x3 : Int32) (md : Int32)
    (H : ∀ (x3' sk' : Int32) (pa' la' : Nat → Int32), mt_VY pa' la' sk' (mt_ap (mv c) (nd c) (ar c) T) → ((mt_an (mv c) (nd c) (ar c) T = 0 ∨ nI c ≠ x2) → x3' = x3) → (mt_an (mv c) (nd c) (ar c) T ≠ 0 → nI c = x2 → x3' = 1) → J x3' (nI (i + 1)) sk' og st mv nd ar kw pa' la' dn oq ol) :
    vp_in (nI c) 60 ∧ ((((mv (nI c).toNatClampNeg) = 0 → (wY_carryOut_130 post J x1 x2 x3 (nI i) (nI c) md sk og st mv nd ar kw pa la dn oq ol)) ∧ (¬ (mv (nI c).toNatClampNeg) = 0 → (vp_in (nI c) 60 ∧ (vp_in (nI c) 60 ∧ (wpY_above (fun r_46 => (((r_46 = 0 → (wY_carryOut_130 post J x1 x2 x3 (nI i) (nI c) md sk og st mv nd ar kw pa la dn oq ol)) ∧ (¬ r_46 = 0 → (wY_carryOut_131 post J x1 x2 x3 (nI i) (nI c) 1 md sk og st mv nd ar kw pa la dn oq ol))))) (md, sk, og, st, mv, nd, ar, kw, pa, la, dn, oq, ol) (nd (nI c).toNatClampNeg) (ar (nI c).toNatClampNeg))))))) := by
  obtain ⟨⟨j, hj, ej⟩, hm⟩ := hv
  have i6 : vp_in (nI c) 60 := vp_in_nI hc (by decide)
  have e : (nI c).toNatClampNeg = c := mt_cl (by omega)
  have ix : vp_in (nd (nI c).toNatClampNeg) 10 := by rw [e, ej]; exact vp_in_nI hj (by decide)
  have ex : (nd (nI c).toNatClampNeg).toNatClampNeg = j := by rw [e, ej]; exact mt_cl (by omega)
  have ea : ar (nI c).toNatClampNeg = ar c := by rw [e]
  unfold mt_ap mt_an at H
  rw [ej, mt_cl (by omega : j < 1000)] at H
  refine ⟨i6, ?_⟩
  by_cases z : mv c = 0
  · have z' : mv (nI c).toNatClampNeg = 0 := by rw [e]; exact z
    rw [if_pos z, if_pos z] at H
    refine br_t z' ?_
    unfold wY_carryOut_130 wY_carryOut_131
    refine br_t rfl ?_
    unfold wY_carryOut_148
    refine br_t rfl ?_
    unfold wY_carryOut_161
    refine ⟨i6, br_t z' ?_⟩
    unfold wY_carryOut_195
    refine ⟨i6, br_t z' ⟨i6, i6, ix, nm_r (by rw [ex, ea]) (nm_r (nI_1 i) ?_)⟩⟩
    refine H x3 _ _ _ ⟨fun n hn => ⟨(hT.1 n hn).1, mt_upd1 (fun n hn => (hT.1 n hn).2) n hn⟩, hT.2⟩ (fun _ => rfl) (fun q => absurd rfl q)
  · have z' : ¬ mv (nI c).toNatClampNeg = 0 := by rw [e]; exact z
    rw [if_neg z, if_neg z] at H
    obtain ⟨q, hq, eq⟩ := hm z
    refine br_f z' ⟨i6, i6, ?_⟩
    rw [e, ej]
    unfold wpY_above
    dsimp only
    refine ⟨11, mt_Y_ab (fun n hn => (hT.1 n hn).1) ho (nI j) _ 10 0 11 (ar c) rfl (by decide) (Or.inr ⟨q, hq, eq⟩) ?_⟩
    rcases mt_ab01 T.1 (nI j) 10 (ar c) with y | y
    · rw [y] at H ⊢
      rw [if_pos rfl] at H
      refine br_t rfl ?_
      unfold wY_carryOut_130 wY_carryOut_131
      refine br_t rfl ?_
      unfold wY_carryOut_148
      refine br_t rfl ?_
      unfold wY_carryOut_161
      refine ⟨i6, br_f z' (br_t rfl ⟨i6, i6, ix, nm_r (by rw [ex, ea]) ?_⟩)⟩
      unfold wY_carryOut_195
      refine ⟨i6, br_f z' (nm_r (nI_1 i) ?_)⟩
      refine H x3 _ _ _ ⟨fun n hn => ⟨mt_upd1 (fun n hn => (hT.1 n hn).1) n hn, (hT.1 n hn).2⟩, hT.2⟩ (fun _ => rfl) (fun q => absurd rfl q)
    · rw [y] at H ⊢
      rw [if_neg (by decide)] at H
      refine br_f (by decide) ?_
      unfold wY_carryOut_131
      refine br_f (by decide) (nm_e ?_)
      have hV : mt_VY pa la (sk + 1) (T.1, T.2.1, T.2.2 + 1) := ⟨hT.1, by rw [hT.2]⟩
      have last : ∀ x3' : Int32, ((nI c ≠ x2) → x3' = x3) → (nI c = x2 → x3' = 1) → wY_carryOut_161 post J x1 x2 x3' (nI i) (nI c) 1 md (sk + 1) og st mv nd ar kw pa la dn oq ol := by
        intro x3' g1 g2
        unfold wY_carryOut_161
        refine ⟨i6, br_f z' (br_f (by decide) ?_)⟩
        unfold wY_carryOut_195
        refine ⟨i6, br_f z' (nm_r (nI_1 i) ?_)⟩
        exact H x3' _ _ _ hV (fun w => w.elim (fun w => absurd w (by decide)) g1) (fun _ => g2)
      unfold wY_carryOut_148
      refine br_f (by decide) (br_c (fun w => last 1 (fun k => absurd w k) (fun _ => rfl)) (fun w => last x3 (fun _ => rfl) (fun k => absurd k w)))
-- the whole replay
theorem mt_Y_66 (h : mt_core m sl iv cn op kn og st mv nd ar kw) {r : Nat} (hr : r < 3) (x2 : Int32) (post : Int32 → SY → Prop)
    (H : ∀ (x3 sk : Int32) (pa la dn : Nat → Int32), mt_VY pa la sk (mt_rp iv cn op kn r 180) → (x3 = 0 ∨ x3 = 1) → (∀ c, c < m → x2 = nI c → ¬ kw (r * 60 + c) = 0 → ¬ mv c = 0 → x3 = mt_ab (mt_rp iv cn op kn r (sl c)).1 (nd c) 10 (ar c)) → post x3 (nI m, sk, og, st, mv, nd, ar, kw, pa, la, dn, oq, ol)) :
    ∀ (d i n S : Nat) (x3 sk : Int32) (pa la dn : Nat → Int32), i + d = m → d < n → S ≤ 180 → mt_VY pa la sk (mt_rp iv cn op kn r S)
      → (∀ c, c < m → ¬ kw (r * 60 + c) = 0 → (¬ dn c = 0 ↔ sl c < S))
      → (i ≤ mt_ct dn m ∨ ∀ c, c < m → ¬ kw (r * 60 + c) = 0 → ¬ dn c = 0)
      → (x3 = 0 ∨ x3 = 1)
      → (∀ c, c < m → x2 = nI c → ¬ kw (r * 60 + c) = 0 → ¬ mv c = 0 → (dn c = 0 → x3 = 0) ∧ (¬ dn c = 0 → x3 = mt_ab (mt_rp iv cn op kn r (sl c)).1 (nd c) 10 (ar c)))
      → wY_carryOut_66 post (nI r) x2 (nI m) n x3 (nI i) sk og st mv nd ar kw pa la dn oq ol := by
  have hm := h.1
  intro d
  induction d with
  | zero =>
    intro i n S x3 sk pa la dn hi hn hS hV hD hN hb hA
    obtain ⟨n, rfl⟩ : ∃ k, n = k + 1 := ⟨n - 1, by omega⟩
    obtain rfl : i = m := by omega
    refine br_t (nI_le (by omega) (by omega)) ⟨mt_nb hb, ?_⟩
    have all : ∀ c, c < i → ¬ kw (r * 60 + c) = 0 → ¬ dn c = 0 := by
      rcases hN with g | g
      · exact fun c hc _ => mt_ct_all dn i g c hc
      · exact g
    refine H x3 sk pa la dn ?_ hb (fun c hc e k y => (hA c hc e k y).2 (all c hc k))
    rw [mt_rp_gap' hS (fun s h1 h2 => ?_)]
    · exact hV
    · by_cases z : kn (r * 180 + s) = 0
      · exact z
      · obtain ⟨c, hc, es, k⟩ := (h.2.2.2.2.2.1 r s hr h2).mp z
        have := (hD c hc k).mp (all c hc k)
        omega
  | succ d ih =>
    intro i n S x3 sk pa la dn hi hn hS hV hD hN hb hA
    obtain ⟨n, rfl⟩ : ∃ k, n = k + 1 := ⟨n - 1, by omega⟩
    refine br_f (nI_ge (by omega) (by omega)) ?_
    refine mt_Y_es h hr _ (fun none => ?_) (fun c hc kc zc min => ?_)
    · exact br_t (by decide) (nm_r (nI_1 i) (ih (i + 1) n S x3 sk pa la dn (by omega) (by omega) hS hV hD (Or.inr none) hb hA))
    · have hc60 : c < 60 := by omega
      have hsl := mt_core_sl h hc
      have Sle : S ≤ sl c := by
        by_cases g : sl c < S
        · exact absurd zc ((hD c hc kc).mpr g)
        · omega
      have egap : mt_rp iv cn op kn r (sl c) = mt_rp iv cn op kn r S := by
        refine mt_rp_gap' Sle (fun s h1 h2 => ?_)
        by_cases z : kn (r * 180 + s) = 0
        · exact z
        · obtain ⟨e, he, es, k⟩ := (h.2.2.2.2.2.1 r s hr (by omega)).mp z
          have ze : dn e = 0 := by
            by_cases g : dn e = 0
            · exact g
            · have := (hD e he k).mp g; omega
          have := min e he k ze
          omega
      obtain ⟨a1, a2, a3, hv⟩ := h.2.2.1 c hc
      have estep : mt_rp iv cn op kn r (sl c + 1) = mt_ap (mv c) (nd c) (ar c) (mt_rp iv cn op kn r S) := by
        rw [mt_rp_y ((mt_core_kn h hr hc).mpr kc), egap, a1, a2, a3]
      refine br_f (nI_pos (by omega)) ⟨vp_in_nI hc60 (by decide), nm_r (by rw [mt_cl (by omega), mt_b1]) ?_⟩
      refine mt_Y_one hc60 hv hV (mt_core_ok h hr hS) post _ (nI r) x2 x3 (nI m) ?_
      intro x3' sk' pa' la' hV' g1 g2
      refine ih (i + 1) n (sl c + 1) x3' sk' pa' la' (upd dn c 1) (by omega) (by omega) (by omega) (by rw [estep]; exact hV') (fun e he k => ?_) ?_ ?_ (fun e he ee k y => ?_)
      · by_cases q : e = c
        · rw [q, pk_us]; exact ⟨fun _ => by omega, fun _ => by decide⟩
        · rw [pk_un q]
          refine ⟨fun g => ?_, fun g => ?_⟩
          · have := (hD e he k).mp g; omega
          · intro ze
            have l := min e he k ze
            exact q (mt_core_inj h he hc (by omega))
      · rcases hN with g | g
        · exact Or.inl (by rw [mt_ct_upd dn c 1 zc (by decide) m hc]; omega)
        · exact absurd zc (g c hc kc)
      · by_cases w : mt_an (mv c) (nd c) (ar c) (mt_rp iv cn op kn r S) = 0 ∨ nI c ≠ x2
        · rw [g1 w]; exact hb
        · refine Or.inr (g2 (fun k => w (Or.inl k)) ?_)
          by_cases k : nI c = x2
          · exact k
          · exact absurd (Or.inr k) w
      · by_cases q : e = c
        · subst q
          rw [pk_us, egap]
          refine ⟨fun k => absurd k (by decide), fun _ => ?_⟩
          have an : mt_an (mv e) (nd e) (ar e) (mt_rp iv cn op kn r S) = mt_ab (mt_rp iv cn op kn r S).1 (nd e) 10 (ar e) := by
            rw [mt_an, if_neg y]
          rw [← an]
          rcases mt_ab01 (mt_rp iv cn op kn r S).1 (nd e) 10 (ar e) with w | w
          · rw [g1 (Or.inl (an.trans w)), an, w]
            exact (hA e he ee k y).1 zc
          · rw [g2 (by rw [an, w]; decide) ee.symm, an, w]
        · have ne : nI c ≠ x2 := by
            intro k
            rw [ee, nI_eq (by omega) (by omega)] at k
            exact q k.symm
          rw [pk_un q, g1 (Or.inr ne)]
          exact hA e he ee k y
theorem mt_Y_34 {x1 x2 x3 md sk : Int32} {dn : Nat → Int32} (post : Int32 → SY → Prop)
    (H : ∀ pa la : Nat → Int32, mt_VY pa la 0 mt_t0 → ∃ n66 : Nat, wY_carryOut_66 post x1 x2 md n66 x3 0 sk og st mv nd ar kw pa la dn oq ol) :
    ∀ (d i n : Nat) (pa la : Nat → Int32), i + d = 10 → d < n → (∀ k, k < i → pa k = -1 ∧ la k = 0) → wY_carryOut_34 post x1 x2 x3 md sk n (nI i) og st mv nd ar kw pa la dn oq ol := by
  intro d
  induction d with
  | zero =>
    intro i n pa la hi hn hz
    obtain ⟨n, rfl⟩ : ∃ k, n = k + 1 := ⟨n - 1, by omega⟩
    exact br_t (nI_le (a := 10) (by omega) (by omega)) (H pa la ⟨fun n hn => hz n (by omega), rfl⟩)
  | succ d ih =>
    intro i n pa la hi hn hz
    obtain ⟨n, rfl⟩ : ∃ k, n = k + 1 := ⟨n - 1, by omega⟩
    have i1 : vp_in (nI i) 10 := vp_in_nI (by omega) (by decide)
    refine br_f (nI_ge (b := 10) (by omega) (by decide)) ⟨i1, nm_r (by rw [mt_cl (by omega)]) ⟨i1, nm_r (by rw [mt_cl (by omega)]) (nm_r (nI_1 i) ?_)⟩⟩
    refine ih (i + 1) n _ _ (by omega) (by omega) (fun k hk => ?_)
    by_cases e : k = i
    · rw [e, pk_us, pk_us]; exact ⟨rfl, rfl⟩
    · rw [pk_un e, pk_un e]; exact hz k (by omega)
theorem mt_Y_10 {x1 x2 x3 md sk : Int32} {pa la : Nat → Int32} (post : Int32 → SY → Prop)
    (H : ∀ dn : Nat → Int32, (∀ c, c < 60 → dn c = 0) → ∃ n34 : Nat, wY_carryOut_34 post x1 x2 x3 md sk n34 0 og st mv nd ar kw pa la dn oq ol) :
    ∀ (d i n : Nat) (dn : Nat → Int32), i + d = 60 → d < n → (∀ k, k < i → dn k = 0) → wY_carryOut_10 post x1 x2 x3 md sk n (nI i) og st mv nd ar kw pa la dn oq ol := by
  intro d
  induction d with
  | zero =>
    intro i n dn hi hn hz
    obtain ⟨n, rfl⟩ : ∃ k, n = k + 1 := ⟨n - 1, by omega⟩
    exact br_t (nI_le (a := 60) (by omega) (by omega)) (H dn (fun c hc => hz c (by omega)))
  | succ d ih =>
    intro i n dn hi hn hz
    obtain ⟨n, rfl⟩ : ∃ k, n = k + 1 := ⟨n - 1, by omega⟩
    refine br_f (nI_ge (b := 60) (by omega) (by decide)) ⟨vp_in_nI (by omega) (by decide), nm_r (by rw [mt_cl (by omega), mt_b0]) (nm_r (nI_1 i) ?_)⟩
    refine ih (i + 1) n _ (by omega) (by omega) (fun k hk => ?_)
    by_cases e : k = i
    · rw [e, pk_us]
    · rw [pk_un e]; exact hz k (by omega)
theorem mt_Y_co (h : mt_core m sl iv cn op kn og st mv nd ar kw) {sk : Int32} {pa la dn : Nat → Int32} {r : Nat} (hr : r < 3) (x2 : Int32) (post : Int32 → SY → Prop)
    (H : ∀ (x3 sk : Int32) (pa la dn : Nat → Int32), mt_VY pa la sk (mt_rp iv cn op kn r 180) → (x3 = 0 ∨ x3 = 1) → (∀ c, c < m → x2 = nI c → ¬ kw (r * 60 + c) = 0 → ¬ mv c = 0 → x3 = mt_ab (mt_rp iv cn op kn r (sl c)).1 (nd c) 10 (ar c)) → post x3 (nI m, sk, og, st, mv, nd, ar, kw, pa, la, dn, oq, ol)) :
    wpY_carryOut post (nI m, sk, og, st, mv, nd, ar, kw, pa, la, dn, oq, ol) (nI r) x2 := by
  refine ⟨61, mt_Y_10 post (fun dn hd => ?_) 60 0 61 dn rfl (by decide) (fun k hk => by omega)⟩
  refine ⟨11, mt_Y_34 post (fun pa la hV => ?_) 10 0 11 pa la rfl (by decide) (fun k hk => by omega)⟩
  have hm := h.1
  refine ⟨m + 1, mt_Y_66 h hr x2 post H m 0 (m + 1) 0 0 0 pa la dn (by omega) (by omega) (by omega) hV (fun c hc k => ?_) (Or.inl (Nat.zero_le _)) (Or.inl rfl) (fun c hc e k y => ⟨fun _ => rfl, fun g => absurd (hd c (by omega)) g⟩)⟩
  exact ⟨fun g => absurd (hd c (by omega)) g, fun g => by omega⟩
end
