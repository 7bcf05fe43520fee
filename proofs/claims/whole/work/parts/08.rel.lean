def mt_Rel (u : SX) (v : SY) : Prop := ∃ (m : Nat) (sl : Nat → Nat) (iv cn op kn sp sb sm : Nat → Int32) (sk : Int32) (og st mv nd ar kw pa la dn oq ol : Nat → Int32),
  u = (nI m, iv, cn, op, kn, sp, sb, sm) ∧ v = (nI m, sk, og, st, mv, nd, ar, kw, pa, la, dn, oq, ol)
  ∧ mt_core m sl iv cn op kn og st mv nd ar kw ∧ ∀ r, r < 3 → mt_VX r sp sb sm (mt_rp iv cn op kn r 180)
def i_Rel (k : Nat) (u : SX) (v : SY) : Prop := k = k ∧ mt_Rel u v
theorem i_up {k : Nat} {u : SX} {v : SY} (h : i_Rel k u v) : i_Rel (k + 4) u v := ⟨rfl, h.2⟩
section
variable {k m : Nat} {sl : Nat → Nat} {iv cn op kn sp sb sm : Nat → Int32} {og st mv nd ar kw : Nat → Int32} {oq ol : Nat → Int32}
theorem mt_rel (hc : mt_core m sl iv cn op kn og st mv nd ar kw) (hs : ∀ r, r < 3 → mt_VX r sp sb sm (mt_rp iv cn op kn r 180)) {sk : Int32} {pa la dn oq ol : Nat → Int32} : i_Rel k (nI m, iv, cn, op, kn, sp, sb, sm) (nI m, sk, og, st, mv, nd, ar, kw, pa, la, dn, oq, ol) :=
  ⟨rfl, m, sl, iv, cn, op, kn, sp, sb, sm, sk, og, st, mv, nd, ar, kw, pa, la, dn, oq, ol, rfl, rfl, hc, hs⟩
end
-- a new object
theorem mt_X_i (post : SX → Prop) (H : ∀ sp : Nat → Int32, (∀ n, n < 30 → sp n = -1) → post (0, fun _ => 0, fun _ => 0, fun _ => 0, fun _ => 0, sp, fun _ => 0, fun _ => 0)) :
    ∀ (d i n : Nat) (sp : Nat → Int32), i + d = 30 → d < n → (∀ k, k < i → sp k = -1) → wX_init_70 post 0 n (nI i) (fun _ => 0) (fun _ => 0) (fun _ => 0) (fun _ => 0) sp (fun _ => 0) (fun _ => 0) := by
  intro d
  induction d with
  | zero =>
    intro i n sp hi hn hz
    obtain ⟨n, rfl⟩ : ∃ k, n = k + 1 := ⟨n - 1, by omega⟩
    obtain rfl : i = 30 := by omega
    exact br_t (by decide) (H sp hz)
  | succ d ih =>
    intro i n sp hi hn hz
    obtain ⟨n, rfl⟩ : ∃ k, n = k + 1 := ⟨n - 1, by omega⟩
    refine br_f (nI_ge (b := 30) (by omega) (by decide)) ⟨vp_in_nI (by omega) (by decide), nm_r (by rw [mt_cl (by omega)]) (nm_r (nI_1 i) ?_)⟩
    refine ih (i + 1) n _ (by omega) (by omega) (fun k hk => ?_)
    by_cases e : k = i
    · rw [e, pk_us]
    · rw [pk_un e]; exact hz k (by omega)
theorem i_vc0 : wpX_init (fun u => wpY_init (fun v => i_Rel 0 u v)) := by
  refine ⟨31, mt_X_i _ (fun sp hz => ?_) 30 0 31 (fun _ => 0) rfl (by decide) (fun k hk => by omega)⟩
  refine mt_rel (m := 0) (sl := fun _ => 0) ⟨by omega, fun c hc => by omega, fun c hc => by omega, fun c hc => by omega, fun c d _ hd => by omega, fun r s hr hs => ?_, fun r c _ _ _ => rfl⟩ (fun r hr => ?_)
  · exact ⟨fun h => absurd rfl h, fun ⟨c, hc, _⟩ => by omega⟩
  · rw [mt_rp_gap' (S := 0) (by omega) (fun s _ _ => rfl)]
    exact ⟨fun n hn => ⟨hz _ (by omega), rfl⟩, rfl⟩
-- what is read
theorem i_vc_parent {k : Nat} {u : SX} {v : SY} (I : i_Rel k u v) (hk : k + 4 ≤ 2048) (v1 : Int32) (v2 : Int32) : wpX_parent (fun r => wpY_parent (fun r' v' => r' = r ∧ i_Rel (k + 4) u v') v v1 v2) u v1 v2 := by
  obtain ⟨_, m, sl, iv, cn, op, kn, sp, sb, sm, sk, og, st, mv, nd, ar, kw, pa, la, dn, oq, ol, rfl, rfl, hc, hs⟩ := I
  unfold wpX_parent wpY_parent
  dsimp only
  by_cases hR : ∃ r : Nat, r < 3 ∧ v1 = nI r
  · obtain ⟨r, hr, rfl⟩ := hR
    refine mt_Xr_t hr (br_f (by decide) ?_)
    by_cases hN : ∃ j : Nat, j < 10 ∧ v2 = nI j
    · obtain ⟨j, hj, rfl⟩ := hN
      refine mt_Xn_t hj (br_f (by decide) ⟨mt_in10 hr hj, ?_⟩)
      refine mt_Yr_t hr (br_t rfl (mt_Yn_t hj (br_t rfl ?_)))
      refine mt_Y_co hc hr (-1) _ (fun x3 sk pa la dn hV _ _ => ⟨vp_in_nI hj (by decide), ?_, mt_rel hc hs⟩)
      rw [mt_c10 hr hj, mt_cl (by omega)]
      exact (hV.1 j hj).1.trans ((hs r hr).1 j hj).1.symm
    · exact mt_Xn_f hN (br_t rfl (mt_Yr_t hr (br_t rfl (mt_Yn_f hN (br_f (by decide) ⟨rfl, mt_rel hc hs⟩)))))
  · exact mt_Xr_f hR (br_t rfl (mt_Yr_f hR (br_f (by decide) ⟨rfl, mt_rel hc hs⟩)))
theorem i_vc_label {k : Nat} {u : SX} {v : SY} (I : i_Rel k u v) (hk : k + 4 ≤ 2048) (v1 : Int32) (v2 : Int32) : wpX_label (fun r => wpY_label (fun r' v' => r' = r ∧ i_Rel (k + 4) u v') v v1 v2) u v1 v2 := by
  obtain ⟨_, m, sl, iv, cn, op, kn, sp, sb, sm, sk, og, st, mv, nd, ar, kw, pa, la, dn, oq, ol, rfl, rfl, hc, hs⟩ := I
  unfold wpX_label wpY_label
  dsimp only
  by_cases hR : ∃ r : Nat, r < 3 ∧ v1 = nI r
  · obtain ⟨r, hr, rfl⟩ := hR
    refine mt_Xr_t hr (br_f (by decide) ?_)
    by_cases hN : ∃ j : Nat, j < 10 ∧ v2 = nI j
    · obtain ⟨j, hj, rfl⟩ := hN
      refine mt_Xn_t hj (br_f (by decide) ⟨mt_in10 hr hj, ?_⟩)
      refine mt_Yr_t hr (br_t rfl (mt_Yn_t hj (br_t rfl ?_)))
      refine mt_Y_co hc hr (-1) _ (fun x3 sk pa la dn hV _ _ => ⟨vp_in_nI hj (by decide), ?_, mt_rel hc hs⟩)
      rw [mt_c10 hr hj, mt_cl (by omega)]
      exact (hV.1 j hj).2.trans ((hs r hr).1 j hj).2.symm
    · exact mt_Xn_f hN (br_t rfl (mt_Yr_t hr (br_t rfl (mt_Yn_f hN (br_f (by decide) ⟨rfl, mt_rel hc hs⟩)))))
  · exact mt_Xr_f hR (br_t rfl (mt_Yr_f hR (br_f (by decide) ⟨rfl, mt_rel hc hs⟩)))
theorem i_vc_children {k : Nat} {u : SX} {v : SY} (I : i_Rel k u v) (hk : k + 4 ≤ 2048) (v1 : Int32) (v2 : Int32) : wpX_children (fun r => wpY_children (fun r' v' => r' = r ∧ i_Rel (k + 4) u v') v v1 v2) u v1 v2 := by
  obtain ⟨_, m, sl, iv, cn, op, kn, sp, sb, sm, sk, og, st, mv, nd, ar, kw, pa, la, dn, oq, ol, rfl, rfl, hc, hs⟩ := I
  unfold wpX_children wpY_children
  dsimp only
  by_cases hR : ∃ r : Nat, r < 3 ∧ v1 = nI r
  · obtain ⟨r, hr, rfl⟩ := hR
    refine mt_Xr_t hr (br_f (by decide) ?_)
    by_cases hN : ∃ j : Nat, j < 10 ∧ v2 = nI j
    · obtain ⟨j, hj, rfl⟩ := hN
      refine mt_Xn_t hj (br_f (by decide) ⟨11, mt_X_ch hr (fun n hn => ((hs r hr).1 n hn).1) (nI j) _ ?_ 10 0 11 rfl (by decide)⟩)
      refine mt_Yr_t hr (br_t rfl (mt_Yn_t hj (br_t rfl ?_)))
      refine mt_Y_co hc hr (-1) _ (fun x3 sk pa la dn hV _ _ => ⟨11, mt_Y_ch (fun n hn => (hV.1 n hn).1) (nI j) _ ⟨rfl, mt_rel hc hs⟩ 10 0 11 rfl (by decide)⟩)
    · exact mt_Xn_f hN (br_t rfl (mt_Yr_t hr (br_t rfl (mt_Yn_f hN (br_f (by decide) ⟨rfl, mt_rel hc hs⟩)))))
  · exact mt_Xr_f hR (br_t rfl (mt_Yr_f hR (br_f (by decide) ⟨rfl, mt_rel hc hs⟩)))
theorem i_vc_depth {k : Nat} {u : SX} {v : SY} (I : i_Rel k u v) (hk : k + 4 ≤ 2048) (v1 : Int32) (v2 : Int32) : wpX_depth (fun r => wpY_depth (fun r' v' => r' = r ∧ i_Rel (k + 4) u v') v v1 v2) u v1 v2 := by
  obtain ⟨_, m, sl, iv, cn, op, kn, sp, sb, sm, sk, og, st, mv, nd, ar, kw, pa, la, dn, oq, ol, rfl, rfl, hc, hs⟩ := I
  unfold wpX_depth wpY_depth
  dsimp only
  by_cases hR : ∃ r : Nat, r < 3 ∧ v1 = nI r
  · obtain ⟨r, hr, rfl⟩ := hR
    refine mt_Xr_t hr (br_f (by decide) ?_)
    by_cases hN : ∃ j : Nat, j < 10 ∧ v2 = nI j
    · obtain ⟨j, hj, rfl⟩ := hN
      have ho := mt_core_ok hc hr (Nat.le_refl 180)
      refine mt_Xn_t hj (br_f (by decide) ⟨mt_in10 hr hj, nm_r (by rw [mt_c10 hr hj, ((hs r hr).1 j hj).1]) ⟨11, mt_X_dp hr (fun n hn => ((hs r hr).1 n hn).1) ho _ 10 0 11 _ rfl (by decide) (ho j hj) ?_⟩⟩)
      refine mt_Yr_t hr (br_t rfl (mt_Yn_t hj (br_t rfl ?_)))
      refine mt_Y_co hc hr (-1) _ (fun x3 sk pa la dn hV _ _ => ⟨11, mt_Y_dp (fun n hn => (hV.1 n hn).1) ho _ 10 0 11 j rfl (by decide) hj ⟨rfl, mt_rel hc hs⟩⟩)
    · exact mt_Xn_f hN (br_t rfl (mt_Yr_t hr (br_t rfl (mt_Yn_f hN (br_f (by decide) ⟨rfl, mt_rel hc hs⟩)))))
  · exact mt_Xr_f hR (br_t rfl (mt_Yr_f hR (br_f (by decide) ⟨rfl, mt_rel hc hs⟩)))
theorem i_vc_skipped {k : Nat} {u : SX} {v : SY} (I : i_Rel k u v) (hk : k + 4 ≤ 2048) (v1 : Int32) : wpX_skipped (fun r => wpY_skipped (fun r' v' => r' = r ∧ i_Rel (k + 4) u v') v v1) u v1 := by
  obtain ⟨_, m, sl, iv, cn, op, kn, sp, sb, sm, sk, og, st, mv, nd, ar, kw, pa, la, dn, oq, ol, rfl, rfl, hc, hs⟩ := I
  unfold wpX_skipped
  dsimp only
  by_cases hR : ∃ r : Nat, r < 3 ∧ v1 = nI r
  · obtain ⟨r, hr, rfl⟩ := hR
    refine mt_Xr_t hr (br_f (by decide) ⟨vp_in_nI hr (by decide), ?_⟩)
    refine mt_Y_sk hc hr _ (fun sk pa la dn hV => ⟨?_, mt_rel hc hs⟩)
    rw [mt_cl (by omega), hV.2, (hs r hr).2]
  · unfold wpY_skipped
    dsimp only
    exact mt_Xr_f hR (br_t rfl (mt_Yr_f hR (br_f (by decide) ⟨rfl, mt_rel hc hs⟩)))
theorem i_vc_alike {k : Nat} {u : SX} {v : SY} (I : i_Rel k u v) (hk : k + 4 ≤ 2048) (v1 : Int32) (v2 : Int32) : wpX_alike (fun r => wpY_alike (fun r' v' => r' = r ∧ i_Rel (k + 4) u v') v v1 v2) u v1 v2 := by
  obtain ⟨_, m, sl, iv, cn, op, kn, sp, sb, sm, sk, og, st, mv, nd, ar, kw, pa, la, dn, oq, ol, rfl, rfl, hc, hs⟩ := I
  unfold wpX_alike wpY_alike
  dsimp only
  by_cases hR : ∃ r : Nat, r < 3 ∧ v1 = nI r
  · obtain ⟨a, ha, rfl⟩ := hR
    refine mt_Xr_t ha (br_f (by decide) ?_)
    by_cases hN : ∃ j : Nat, j < 3 ∧ v2 = nI j
    · obtain ⟨b, hb, rfl⟩ := hN
      refine mt_Xr_t hb (br_f (by decide) ⟨11, mt_X_al ha hb (hs a ha) (hs b hb) _ 10 0 11 rfl (by decide) ?_⟩)
      refine mt_Yr_t ha (br_t rfl (mt_Yr_t hb (br_t rfl ?_)))
      refine mt_Y_co hc ha (-1) _ (fun x3 sk pa la dn hV _ _ => ⟨11, mt_Y_25 hV.1 _ (fun oq ol ho n => ?_) 10 0 11 oq ol rfl (by decide) (fun k hk => by omega)⟩)
      refine br_t (by decide) ?_
      refine mt_Y_co hc hb (-1) _ (fun x3 sk pa la dn hW _ _ => ⟨11, mt_Y_al ho hW.1 _ 10 0 11 rfl (by decide) ⟨rfl, mt_rel hc hs⟩⟩)
    · exact mt_Xr_f hN (br_t rfl (mt_Yr_t ha (br_t rfl (mt_Yr_f hN (br_f (by decide) ⟨rfl, mt_rel hc hs⟩)))))
  · exact mt_Xr_f hR (br_t rfl (mt_Yr_f hR (br_f (by decide) ⟨rfl, mt_rel hc hs⟩)))
