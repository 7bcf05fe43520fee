section
variable {m : Nat} {sl : Nat → Nat} {iv cn op kn sp sb sm og st mv nd ar kw : Nat → Int32}
theorem mt_q_x1 (h : mt_core m sl iv cn op kn og st mv nd ar kw) {r q : Nat} (hr : r < 3) (hq : mt_q m sl kw r q) : ∀ s, s < 180 → ¬ kn (r * 180 + s) = 0 → s / 3 + 1 ≤ q := by
  intro s hs z
  obtain ⟨c, hc, e, y⟩ := (h.2.2.2.2.2.1 r s hr hs).mp z
  rw [← e]; exact hq.1 c hc y
theorem mt_q_x2 (h : mt_core m sl iv cn op kn og st mv nd ar kw) {r q : Nat} (hr : r < 3) (hq : mt_q m sl kw r q) : q = 0 ∨ ∃ s, s < 180 ∧ ¬ kn (r * 180 + s) = 0 ∧ s / 3 + 1 = q := by
  rcases hq.2 with e | ⟨c, hc, y, e⟩
  · exact Or.inl e
  · exact Or.inr ⟨sl c, mt_core_sl h hc, (mt_core_kn h hr hc).mpr y, e⟩
theorem mt_new_V (h : mt_core m sl iv cn op kn og st mv nd ar kw) (hs : ∀ r, r < 3 → mt_VX r sp sb sm (mt_rp iv cn op kn r 180)) {r q : Nat} (hr : r < 3) (hm : m < 60) (hq : mt_q m sl kw r q) {b x y : Int32} {sp' sb' sm' : Nat → Int32} (hV : mt_VX r sp' sb' sm' (mt_ap b x y (mt_rp iv cn op kn r 180))) (hF : mt_FR r sp sb sm sp' sb' sm') :
    ∀ r', r' < 3 → mt_VX r' sp' sb' sm' (mt_rp (upd iv (3 * q + r) b) (upd cn (3 * q + r) x) (upd op (3 * q + r) y) (upd kn (r * 180 + (3 * q + r)) 1) r' 180) := by
  intro r' hr'
  by_cases e : r' = r
  · subst e
    rw [mt_new_s h hr hm hq]; exact hV
  · rw [mt_new_o h hr hm hq b x y hr' e]
    exact mt_FR_V hF hr' e (hs r' hr')
end
theorem i_vc_move {k : Nat} {u : SX} {v : SY} (I : i_Rel k u v) (hk : k + 4 ≤ 2048) (v1 : Int32) (v2 : Int32) (v3 : Int32) : wpX_move (fun r u' => wpY_move (fun r' v' => r' = r ∧ i_Rel (k + 4) u' v') v v1 v2 v3) u v1 v2 v3 := by
  obtain ⟨_, m, sl, iv, cn, op, kn, sp, sb, sm, sk, og, st, mv, nd, ar, kw, pa, la, dn, oq, ol, rfl, rfl, hc, hs⟩ := I
  have hm6 := hc.1
  unfold wpX_move wpY_move
  dsimp only
  by_cases hR : ∃ r : Nat, r < 3 ∧ v1 = nI r
  · obtain ⟨r, hr, rfl⟩ := hR
    refine mt_Xr_t hr (br_f (by decide) ?_)
    by_cases hN : ∃ j : Nat, j < 10 ∧ v2 = nI j
    · obtain ⟨j, hj, rfl⟩ := hN
      refine mt_Xn_t hj (br_f (by decide) ?_)
      by_cases h0 : j = 0
      · subst h0
        exact br_t rfl (mt_Yr_t hr (br_t rfl (br_t (by decide) ⟨rfl, mt_rel hc hs⟩)))
      · refine br_f (nI_ne0 (by omega) (by omega)) ?_
        have n1 : ¬ nI j < 1 := nI_nlt (b := 1) (by omega) (by omega)
        have n9 : ¬ 9 < nI j := nI_nlt (a := 9) (by omega) (by decide)
        by_cases hP : ∃ p : Nat, p < 10 ∧ v3 = nI p
        · obtain ⟨p, hp, rfl⟩ := hP
          refine mt_Xn_t hp (br_f (by decide) ?_)
          by_cases hm : m < 60
          · refine br_t (nI_lt (b := 60) hm (by decide)) ?_
            obtain ⟨q, hq⟩ := mt_max kw sl r m
            have ql := mt_q_le hc hq
            have hv : mt_v (vp_nar .boolean 1) (nI j) (nI p) := ⟨⟨j, hj, rfl⟩, fun _ => ⟨p, hp, rfl⟩⟩
            have hc' := mt_core_new hc hr hm hq hv
            refine mt_X_mk hr (by omega) (mt_q_x1 hc hr hq) (mt_q_x2 hc hr hq) hv (hs r hr) (mt_core_ok hc hr (Nat.le_refl 180)) _ (fun sp' sb' sm' hV hF => ?_)
            refine mt_Yr_t hr (br_t rfl (br_f n1 (br_f n9 (mt_Yn_t hp (br_t rfl (br_f ?_ ?_))))))
            · intro e
              have := (nI_eq (a := m) (b := 60) (by omega) (by omega)).mp e
              omega
            · refine mt_Y_mk hc hr hm hq _ ?_
              refine mt_Y_co hc' hr (nI m) _ (fun x3 sk pa la dn hW hb hA => ?_)
              have hx := hA m (by omega) rfl (by rw [pk_us]; decide) (by rw [pk_us, mt_b1]; decide)
              rw [mt_sn_s, pk_us, pk_us, mt_new_t hc hr hm hq] at hx
              have ha : mt_an (vp_nar .boolean 1) (nI j) (nI p) (mt_rp iv cn op kn r 180) = x3 := by
                rw [mt_an, if_neg (by rw [mt_b1]; decide), hx]
              have hrel : ∀ {sk : Int32} {pa la dn oq ol : Nat → Int32}, i_Rel (k + 4) (nI m + 1, upd iv (3 * q + r) (vp_nar .boolean 1), upd cn (3 * q + r) (nI j), upd op (3 * q + r) (nI p), upd kn (r * 180 + (3 * q + r)) 1, sp', sb', sm') (nI (m + 1), sk, upd og m (nI r), upd st m (nI (q + 1)), upd mv m (vp_nar .boolean 1), upd nd m (nI j), upd ar m (nI p), upd kw (r * 60 + m) 1, pa, la, dn, oq, ol) := by
                intro sk pa la dn oq ol
                rw [nI_1]
                exact mt_rel hc' (mt_new_V hc hs hr hm hq hV hF)
              rcases hb with hb | hb
              · exact br_t hb ⟨by rw [ha, hb], hrel⟩
              · exact br_f (by rw [hb]; decide) ⟨by rw [ha, hb], hrel⟩
          · have e60 : m = 60 := by omega
            subst e60
            exact br_f (by decide) (mt_Yr_t hr (br_t rfl (br_f n1 (br_f n9 (mt_Yn_t hp (br_t rfl (br_t rfl ⟨rfl, mt_rel hc hs⟩)))))))
        · exact mt_Xn_f hP (br_t rfl (mt_Yr_t hr (br_t rfl (br_f n1 (br_f n9 (mt_Yn_f hP (br_f (by decide) ⟨rfl, mt_rel hc hs⟩)))))))
    · refine mt_Xn_f hN (br_t rfl (mt_Yr_t hr (br_t rfl (br_c (fun _ => ⟨rfl, mt_rel hc hs⟩) (fun a => br_c (fun _ => ⟨rfl, mt_rel hc hs⟩) (fun b => ?_))))))
      have a0 : ¬ v2 < 0 := fun h => a (Int32.lt_trans h (by decide))
      obtain ⟨j, hj, e⟩ := nI_of2 (M := 9) (n := 9) (by decide) a0 (Int32.not_lt.mp b)
      exact absurd ⟨j, by omega, e⟩ hN
  · exact mt_Xr_f hR (br_t rfl (mt_Yr_f hR (br_f (by decide) ⟨rfl, mt_rel hc hs⟩)))
theorem i_vc_name {k : Nat} {u : SX} {v : SY} (I : i_Rel k u v) (hk : k + 4 ≤ 2048) (v1 : Int32) (v2 : Int32) (v3 : Int32) : wpX_name (fun r u' => wpY_name (fun r' v' => r' = r ∧ i_Rel (k + 4) u' v') v v1 v2 v3) u v1 v2 v3 := by
  obtain ⟨_, m, sl, iv, cn, op, kn, sp, sb, sm, sk, og, st, mv, nd, ar, kw, pa, la, dn, oq, ol, rfl, rfl, hc, hs⟩ := I
  have hm6 := hc.1
  unfold wpX_name wpY_name
  dsimp only
  by_cases hR : ∃ r : Nat, r < 3 ∧ v1 = nI r
  · obtain ⟨r, hr, rfl⟩ := hR
    refine mt_Xr_t hr (br_f (by decide) ?_)
    by_cases hN : ∃ j : Nat, j < 10 ∧ v2 = nI j
    · obtain ⟨j, hj, rfl⟩ := hN
      refine mt_Xn_t hj (br_f (by decide) ?_)
      by_cases hm : m < 60
      · refine br_t (nI_lt (b := 60) hm (by decide)) ?_
        obtain ⟨q, hq⟩ := mt_max kw sl r m
        have ql := mt_q_le hc hq
        have hv : mt_v (vp_nar .boolean 0) (nI j) v3 := ⟨⟨j, hj, rfl⟩, fun z => absurd mt_b0 z⟩
        have hc' := mt_core_new hc hr hm hq hv
        refine mt_X_mk hr (by omega) (mt_q_x1 hc hr hq) (mt_q_x2 hc hr hq) hv (hs r hr) (mt_core_ok hc hr (Nat.le_refl 180)) _ (fun sp' sb' sm' hV hF => ?_)
        refine mt_Yr_t hr (br_t rfl (mt_Yn_t hj (br_t rfl (br_f ?_ ?_))))
        · intro e
          have := (nI_eq (a := m) (b := 60) (by omega) (by omega)).mp e
          omega
        · refine mt_Y_mk hc hr hm hq _ ⟨?_, ?_⟩
          · rw [mt_an, if_pos mt_b0]
          · rw [nI_1]
            exact mt_rel hc' (mt_new_V hc hs hr hm hq hV hF)
      · have e60 : m = 60 := by omega
        subst e60
        exact br_f (by decide) (mt_Yr_t hr (br_t rfl (mt_Yn_t hj (br_t rfl (br_t rfl ⟨rfl, mt_rel hc hs⟩)))))
    · exact mt_Xn_f hN (br_t rfl (mt_Yr_t hr (br_t rfl (mt_Yn_f hN (br_f (by decide) ⟨rfl, mt_rel hc hs⟩)))))
  · exact mt_Xr_f hR (br_t rfl (mt_Yr_f hR (br_f (by decide) ⟨rfl, mt_rel hc hs⟩)))
theorem i_vc_deliver {k : Nat} {u : SX} {v : SY} (I : i_Rel k u v) (hk : k + 4 ≤ 2048) (v1 : Int32) (v2 : Int32) : wpX_deliver (fun r u' => wpY_deliver (fun r' v' => r' = r ∧ i_Rel (k + 4) u' v') v v1 v2) u v1 v2 := by
  obtain ⟨_, m, sl, iv, cn, op, kn, sp, sb, sm, sk, og, st, mv, nd, ar, kw, pa, la, dn, oq, ol, rfl, rfl, hc, hs⟩ := I
  unfold wpX_deliver wpY_deliver
  dsimp only
  by_cases hR : ∃ r : Nat, r < 3 ∧ v1 = nI r
  · obtain ⟨f, hf, rfl⟩ := hR
    refine mt_Xr_t hf (br_f (by decide) ?_)
    by_cases hN : ∃ j : Nat, j < 3 ∧ v2 = nI j
    · obtain ⟨t, ht, rfl⟩ := hN
      -- an origin knows its own
      have own : ∀ c, c < m → sl c % 3 = f → ¬ kn (f * 180 + sl c) = 0 := fun c hcm e => (mt_core_kn hc hf hcm).mpr (by rw [← e]; exact hc.2.2.2.1 c hcm)
      refine mt_Xr_t ht (br_f (by decide) ?_)
      refine mt_X_fm hf ht _ (fun none => ?_) (fun s hs180 h3 hk1 hk2 first => ?_)
      · refine br_t rfl (mt_Yr_t hf (br_t rfl (mt_Yr_t ht (br_t rfl ⟨m + 1, mt_Y_dl hc hf ht _ (fun _ => ⟨rfl, mt_rel hc hs⟩) (fun c hcm e z _ => ?_) m 0 (m + 1) (by omega) (by omega) (fun c hc0 => by omega)⟩))))
        exact absurd z ((mt_core_kn hc ht hcm).mp (none (sl c) (mt_core_sl hc hcm) e (own c hcm e)))
      · obtain ⟨c0, hc0, es, hk0⟩ := (hc.2.2.2.2.2.1 f s hf hs180).mp hk1
        have z0 : kw (t * 60 + c0) = 0 := by
          by_cases z : kw (t * 60 + c0) = 0
          · exact z
          · have := (mt_core_kn hc ht hc0).mpr z
            rw [es] at this
            exact absurd hk2 this
        have hc' := mt_core_ln hc ht hc0
        rw [es] at hc'
        have nes : ¬ nI s = -1 := by
          intro e
          have h1 := congrArg Int32.toInt e
          rw [nI_toInt (by omega)] at h1
          have h2 : (-1 : Int32).toInt = -1 := by decide
          omega
        refine br_f nes ⟨mt_in180 ht hs180, nm_r (by rw [mt_c180 ht hs180, mt_b1]) ?_⟩
        refine mt_X_sa ht (fun s' hs' z => mt_core_v hc' ht hs' z) _ (fun sp' sb' sm' hV hF => ⟨vp_in_nI ht (by decide), ?_⟩)
        have hs' : ∀ r', r' < 3 → mt_VX r' sp' sb' sm' (mt_rp iv cn op (upd kn (t * 180 + s) 1) r' 180) := by
          intro r' hr'
          by_cases e : r' = t
          · subst e; exact hV
          · rw [mt_rp_keep (kn := kn) (fun s' hs' => pk_un (by omega))]
            exact mt_FR_V hF hr' e (hs r' hr')
        refine mt_Yr_t hf (br_t rfl (mt_Yr_t ht (br_t rfl ⟨m + 1, mt_Y_dl hc hf ht _ (fun all => ?_) (fun c hcm e z min => ?_) m 0 (m + 1) (by omega) (by omega) (fun c hc0 => by omega)⟩)))
        · exact absurd z0 (all c0 hc0 (by omega))
        · have ec : c = c0 := by
            by_cases l : c < c0
            · have l2 := hc.2.2.2.2.1 c c0 l hc0 (by omega)
              exact absurd z ((mt_core_kn hc ht hcm).mp (first (sl c) (by omega) e (own c hcm e)))
            · by_cases l2 : c0 < c
              · exact absurd z0 (min c0 l2 (by omega))
              · omega
          subst ec
          refine ⟨upd kn (t * 180 + s) 1, hc', fun sk pa la dn hW => ⟨?_, mt_rel hc' hs'⟩⟩
          rw [mt_cl (by omega)]
          exact hW.2.trans hV.2.symm
    · exact mt_Xr_f hN (br_t rfl (mt_Yr_t hf (br_t rfl (mt_Yr_f hN (br_f (by decide) ⟨rfl, mt_rel hc hs⟩)))))
  · exact mt_Xr_f hR (br_t rfl (mt_Yr_f hR (br_f (by decide) ⟨rfl, mt_rel hc hs⟩)))
theorem i_vc_sync {k : Nat} {u : SX} {v : SY} (I : i_Rel k u v) (hk : k + 4 ≤ 2048) (v1 : Int32) (v2 : Int32) : wpX_sync (fun r u' => wpY_sync (fun r' v' => r' = r ∧ i_Rel (k + 4) u' v') v v1 v2) u v1 v2 := by
  obtain ⟨_, m, sl, iv, cn, op, kn, sp, sb, sm, sk, og, st, mv, nd, ar, kw, pa, la, dn, oq, ol, rfl, rfl, hc, hs⟩ := I
  unfold wpX_sync wpY_sync
  dsimp only
  by_cases hR : ∃ r : Nat, r < 3 ∧ v1 = nI r
  · obtain ⟨f, hf, rfl⟩ := hR
    refine mt_Xr_t hf (br_f (by decide) ?_)
    by_cases hN : ∃ j : Nat, j < 3 ∧ v2 = nI j
    · obtain ⟨t, ht, rfl⟩ := hN
      have hc' := mt_core_sy hc hf ht
      refine mt_Xr_t ht (br_f (by decide) ⟨181, mt_X_sy hf ht kn _ ?_ 180 0 181 rfl (by decide)⟩)
      refine mt_X_sa ht (fun s' hs' z => mt_core_v hc' ht hs' z) _ (fun sp' sb' sm' hV hF => ?_)
      have hs' : ∀ r', r' < 3 → mt_VX r' sp' sb' sm' (mt_rp iv cn op (mt_sy (f * 180) (t * 180) kn 180).1 r' 180) := by
        intro r' hr'
        by_cases e : r' = t
        · subst e; exact hV
        · rw [mt_rp_keep (kn := kn) (fun s' hs' => (mt_sy_spec (w := 180) (by omega) 180 (by omega)).1 _ (fun s hs => by omega))]
          exact mt_FR_V hF hr' e (hs r' hr')
      refine mt_Yr_t hf (br_t rfl (mt_Yr_t ht (br_t rfl ⟨m + 1, mt_Y_sy hf ht hc.1 kw _ ⟨?_, mt_rel hc' hs'⟩ m 0 (m + 1) (by omega) (by omega)⟩)))
      rw [mt_sy_ct hc hf ht]
    · exact mt_Xr_f hN (br_t rfl (mt_Yr_t hf (br_t rfl (mt_Yr_f hN (br_f (by decide) ⟨rfl, mt_rel hc hs⟩)))))
  · exact mt_Xr_f hR (br_t rfl (mt_Yr_f hR (br_f (by decide) ⟨rfl, mt_rel hc hs⟩)))
