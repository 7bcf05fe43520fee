-- what the reference's scratch shows
def mt_VY (pa la : Nat → Int32) (sk : Int32) (T : mt_T) : Prop := (∀ n, n < 10 → pa n = T.1 n ∧ la n = T.2.1 n) ∧ sk = T.2.2
theorem mt_upd1 {f g : Nat → Int32} {j : Nat} {x : Int32} (h : ∀ n, n < 10 → f n = g n) : ∀ n, n < 10 → upd f j x n = upd g j x n := by
  intro n hn
  by_cases e : n = j
  · rw [e, pk_us, pk_us]
  · rw [pk_un e, pk_un e]; exact h n hn
section
variable {md sk : Int32} {og st mv nd ar kw pa la dn oq ol : Nat → Int32}
theorem mt_Y_ab {p : Nat → Int32} (hp : ∀ n, n < 10 → pa n = p n) (ho : ∀ n, n < 10 → mt_ok (p n)) (x : Int32) (post : Int32 → Prop) :
    ∀ (d i n : Nat) (a : Int32), i + d = 10 → d < n → mt_ok a → post (mt_ab p x d a) → wY_above_5 post x md sk og st mv nd ar kw pa la dn oq ol n a (nI i) := by
  intro d
  induction d with
  | zero =>
    intro i n a hi hn _ hq
    obtain ⟨n, rfl⟩ : ∃ k, n = k + 1 := ⟨n - 1, by omega⟩
    exact br_t (nI_le (a := 10) (by omega) (by omega)) hq
  | succ d ih =>
    intro i n a hi hn ha hq
    obtain ⟨n, rfl⟩ : ∃ k, n = k + 1 := ⟨n - 1, by omega⟩
    refine br_f (nI_ge (b := 10) (by omega) (by decide)) ?_
    rw [mt_ab] at hq
    rcases ha with rfl | ⟨j, hj, rfl⟩
    · rw [if_pos rfl] at hq; exact br_t (by decide) hq
    · rw [if_neg (mt_ok_neg hj)] at hq
      refine br_f (nI_pos (by omega)) ?_
      by_cases h2 : nI j = x
      · rw [if_pos h2] at hq; exact br_t h2 hq
      · rw [if_neg h2, mt_cl (by omega)] at hq
        refine br_f h2 ⟨vp_in_nI hj (by decide), nm_r (by rw [mt_cl (by omega), hp j hj]) (nm_r (nI_1 i) ?_)⟩
        exact ih (i + 1) n _ (by omega) (by omega) (ho j hj) hq
end
section
variable {m : Nat} {sl : Nat → Nat} {iv cn op kn og st mv nd ar kw : Nat → Int32} {md sk : Int32} {pa la dn oq ol : Nat → Int32}
theorem mt_Y_er (h : mt_core m sl iv cn op kn og st mv nd ar kw) {c d : Nat} (hc : c < m) (hd : d < m) (post : Int32 → Prop) (h1 : sl c < sl d → post 1) (h0 : ¬ sl c < sl d → post 0) :
    wpY_earlier post (md, sk, og, st, mv, nd, ar, kw, pa, la, dn, oq, ol) (nI c) (nI d) := by
  have hm := h.1
  obtain ⟨a1, a2, a3⟩ := h.2.1 c hc
  obtain ⟨b1, b2, b3⟩ := h.2.1 d hd
  have ic : vp_in (nI c) 60 := vp_in_nI (by omega) (by decide)
  have id' : vp_in (nI d) 60 := vp_in_nI (by omega) (by decide)
  unfold wpY_earlier
  dsimp only
  rw [mt_cl (by omega), mt_cl (by omega), a1, a2, b1, b2]
  refine ⟨ic, id', pk_lt (sl c / 3 + 1) (sl d / 3 + 1) (fun l => h1 (by omega)) (fun l => ⟨ic, id', ?_⟩)⟩
  refine pk_eq (sl c / 3 + 1) (sl d / 3 + 1) (fun e => ⟨ic, id', ?_⟩) (fun e => h0 (by omega))
  exact pk_le (sl d % 3) (sl c % 3) (fun l => h0 (by omega)) (fun l => h1 (by omega))
theorem mt_Y_e4 (h : mt_core m sl iv cn op kn og st mv nd ar kw) {r : Nat} (hr : r < 3) (post : Int32 → Prop)
    (hN : (∀ c, c < m → ¬ kw (r * 60 + c) = 0 → ¬ dn c = 0) → post (-1))
    (hY : ∀ c, c < m → ¬ kw (r * 60 + c) = 0 → dn c = 0 → (∀ d, d < m → ¬ kw (r * 60 + d) = 0 → dn d = 0 → sl c ≤ sl d) → post (nI c)) :
    ∀ (d i n : Nat) (x : Int32), i + d = m → d < n → ((x = -1 ∧ ∀ c, c < i → ¬ kw (r * 60 + c) = 0 → ¬ dn c = 0) ∨ (∃ c, x = nI c ∧ c < i ∧ ¬ kw (r * 60 + c) = 0 ∧ dn c = 0 ∧ (∀ d, d < i → ¬ kw (r * 60 + d) = 0 → dn d = 0 → sl c ≤ sl d))) → wY_earliest_4 post (nI r) (nI m) sk og st mv nd ar kw pa la dn oq ol n x (nI i) := by
  have hm := h.1
  intro d
  induction d with
  | zero =>
    intro i n x hi hn hx
    obtain ⟨n, rfl⟩ : ∃ k, n = k + 1 := ⟨n - 1, by omega⟩
    refine br_t (nI_le (by omega) (by omega)) ?_
    obtain rfl : i = m := by omega
    rcases hx with ⟨rfl, k⟩ | ⟨c, rfl, hc, k1, k2, k3⟩
    · exact hN k
    · exact hY c hc k1 k2 k3
  | succ d ih =>
    intro i n x hi hn hx
    obtain ⟨n, rfl⟩ : ∃ k, n = k + 1 := ⟨n - 1, by omega⟩
    have hi2 : i < m := by omega
    refine br_f (nI_ge hi2 (by omega)) ⟨mt_in60 hr (by omega), ?_⟩
    rw [mt_c60 hr (by omega)]
    -- the change i is no candidate
    have keep : (kw (r * 60 + i) = 0 ∨ ¬ dn i = 0) → wY_earliest_4 post (nI r) (nI m) sk og st mv nd ar kw pa la dn oq ol n x (nI (i + 1)) := by
      intro g
      refine ih (i + 1) n x (by omega) (by omega) ?_
      rcases hx with ⟨e, k⟩ | ⟨c, e, hc, k1, k2, k3⟩
      · refine Or.inl ⟨e, fun c hc y => ?_⟩
        by_cases q : c = i
        · rw [q] at y ⊢
          rcases g with g | g
          · exact absurd g y
          · exact g
        · exact k c (by omega) y
      · refine Or.inr ⟨c, e, by omega, k1, k2, fun d hd y z => ?_⟩
        by_cases q : d = i
        · rw [q] at y z
          rcases g with g | g
          · exact absurd g y
          · exact absurd z g
        · exact k3 d (by omega) y z
    by_cases y : kw (r * 60 + i) = 0
    · exact br_t y (nm_r (nI_1 i) (keep (Or.inl y)))
    · refine br_f y ⟨vp_in_nI (by omega) (by decide), ?_⟩
      rw [mt_cl (by omega)]
      by_cases z : dn i = 0
      · refine br_t z ?_
        rcases hx with ⟨rfl, k⟩ | ⟨c, rfl, hc, k1, k2, k3⟩
        · refine br_t (by decide) (nm_r (nI_1 i) ?_)
          refine ih (i + 1) n _ (by omega) (by omega) (Or.inr ⟨i, rfl, by omega, y, z, fun d hd y' z' => ?_⟩)
          by_cases q : d = i
          · rw [q]; exact Nat.le_refl _
          · exact absurd z' (k d (by omega) y')
        · refine br_f (nI_pos (by omega)) ?_
          refine mt_Y_er h hi2 (by omega) _ (fun l => ?_) (fun l => ?_)
          · refine br_f (by decide) (nm_r (nI_1 i) ?_)
            refine ih (i + 1) n _ (by omega) (by omega) (Or.inr ⟨i, rfl, by omega, y, z, fun d hd y' z' => ?_⟩)
            by_cases q : d = i
            · rw [q]; exact Nat.le_refl _
            · have := k3 d (by omega) y' z'; omega
          · refine br_t rfl (nm_r (nI_1 i) ?_)
            refine ih (i + 1) n _ (by omega) (by omega) (Or.inr ⟨c, rfl, by omega, k1, k2, fun d hd y' z' => ?_⟩)
            by_cases q : d = i
            · rw [q]; omega
            · exact k3 d (by omega) y' z'
      · exact br_f z (nm_r (nI_1 i) (keep (Or.inr z)))
theorem mt_Y_es (h : mt_core m sl iv cn op kn og st mv nd ar kw) {r : Nat} (hr : r < 3) (post : Int32 → Prop)
    (hN : (∀ c, c < m → ¬ kw (r * 60 + c) = 0 → ¬ dn c = 0) → post (-1))
    (hY : ∀ c, c < m → ¬ kw (r * 60 + c) = 0 → dn c = 0 → (∀ d, d < m → ¬ kw (r * 60 + d) = 0 → dn d = 0 → sl c ≤ sl d) → post (nI c)) :
    wpY_earliest post (nI m, sk, og, st, mv, nd, ar, kw, pa, la, dn, oq, ol) (nI r) :=
  ⟨m + 1, mt_Y_e4 h hr post hN hY m 0 (m + 1) (-1) (by omega) (by omega) (Or.inl ⟨rfl, fun c hc => by omega⟩)⟩
end
