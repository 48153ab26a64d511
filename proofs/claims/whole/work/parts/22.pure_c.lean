/-! PURE: calls without loops -/
/-- both answer alike, and belong together again -/
def pc (o : iz_S → Option (Int32 × iz_S)) (o2 : iz_S → Option (Int32 × iz_S)) (S : iz_S) : Prop := iz_wp (o S) (fun r => iz_wp (o2 r.2) (fun r2 => r2.1 = r.1 ∧ rl r2.2))
theorem rl_fr0 {S T : iz_S} {ch : Nat → Nat → Bool} (h : rl S) (hf : fr ch S T) (h0 : ∀ p i, ch p i = true → p = 81 ∨ p = 106) (h1 : rl_found T) : rl T := by
  have hn : ∀ p i, p ≠ 81 → p ≠ 106 → ch p i = false := fun p i h1 h2 => by
    cases hc : ch p i with
    | false => rfl
    | true => rcases h0 p i hc with q | q
              · exact absurd q h1
              · exact absurd q h2
  obtain ⟨g1, g2, g3, g4, g5, g6, g7, -⟩ := h
  exact ⟨st_lake hf (fun i => ⟨hn _ _ (by decide) (by decide), hn _ _ (by decide) (by decide), hn _ _ (by decide) (by decide), hn _ _ (by decide) (by decide), hn _ _ (by decide) (by decide), hn _ _ (by decide) (by decide)⟩) g1,
    st_shel hf (fun i => ⟨hn _ _ (by decide) (by decide), hn _ _ (by decide) (by decide), hn _ _ (by decide) (by decide), hn _ _ (by decide) (by decide), hn _ _ (by decide) (by decide), hn _ _ (by decide) (by decide)⟩) g2,
    st_house hf (fun i => ⟨hn _ _ (by decide) (by decide), hn _ _ (by decide) (by decide), hn _ _ (by decide) (by decide), hn _ _ (by decide) (by decide), hn _ _ (by decide) (by decide), hn _ _ (by decide) (by decide), hn _ _ (by decide) (by decide), hn _ _ (by decide) (by decide), hn _ _ (by decide) (by decide), hn _ _ (by decide) (by decide), hn _ _ (by decide) (by decide), hn _ _ (by decide) (by decide)⟩) (hn _ _ (by decide) (by decide)) (hn _ _ (by decide) (by decide)) (fun i _ => hn _ _ (by decide) (by decide)) g3,
    st_ord hf (fun i => ⟨hn _ _ (by decide) (by decide), hn _ _ (by decide) (by decide), hn _ _ (by decide) (by decide), hn _ _ (by decide) (by decide), hn _ _ (by decide) (by decide), hn _ _ (by decide) (by decide), hn _ _ (by decide) (by decide), hn _ _ (by decide) (by decide), hn _ _ (by decide) (by decide), hn _ _ (by decide) (by decide), hn _ _ (by decide) (by decide), hn _ _ (by decide) (by decide), hn _ _ (by decide) (by decide)⟩) (hn _ _ (by decide) (by decide)) (hn _ _ (by decide) (by decide)) g4,
    st_rail hf (fun i => ⟨hn _ _ (by decide) (by decide), hn _ _ (by decide) (by decide), hn _ _ (by decide) (by decide), hn _ _ (by decide) (by decide), hn _ _ (by decide) (by decide), hn _ _ (by decide) (by decide), hn _ _ (by decide) (by decide)⟩) (hn _ _ (by decide) (by decide)) g5,
    st_wait hf (fun i => ⟨hn _ _ (by decide) (by decide), hn _ _ (by decide) (by decide), hn _ _ (by decide) (by decide)⟩) (hn _ _ (by decide) (by decide)) g6,
    st_sale hf (fun i => ⟨hn _ _ (by decide) (by decide), hn _ _ (by decide) (by decide)⟩) g7, h1⟩
/-- a finding in both -/
theorem rl_find {S : iz_S} {k : Nat} (h : rl S) : rl (iz_up (iz_up S 81 k (S.1 81 k + 1)) 106 k ((iz_up S 81 k (S.1 81 k + 1)).1 106 k + 1)) := by
  refine rl_fr0 (ch := fun p _ => p == 81 || p == 106) h (fr_up (fr_up (fr_rf _ S) rfl) rfl) (fun p i hp => by simpa using hp) ?_
  intro i hi
  have h8 := h.2.2.2.2.2.2.2 i hi
  by_cases e : i = k
  · subst e
    rw [up_same, up_ne _ _ _ _ (Or.inl (by decide)), up_same, up_ne _ _ _ _ (Or.inl (by decide)), h8]
  · rw [up_ne _ _ _ _ (Or.inl (by decide)), up_ne _ _ _ _ (Or.inr e), up_ne _ _ _ _ (Or.inr e), up_ne _ _ _ _ (Or.inl (by decide)), h8]
/-- one of two calls answers a finding as the other does -/
theorem wp_ic_find {β : Type} (k : Nat) (hk : k < 6) {x : Int32} (hx : x = nI k) {S : iz_S} {kk : Int32 → iz_S → Option β} {Q : β → Prop} (h : iz_wp (kk ((-1000000) - nI k) (iz_up S 81 k (S.1 81 k + 1))) Q) : iz_wp (iz_bI (Ic_finding 0 x S) kk) Q := by
  subst hx
  refine wp_bI ?_
  rw [ic_finding k hk]
  exact wp_some h
theorem wp_mo_find {β : Type} (k : Nat) (hk : k < 6) {x : Int32} (hx : x = nI k) {S : iz_S} {kk : Int32 → iz_S → Option β} {Q : β → Prop} (h : iz_wp (kk ((-1000000) - nI k) (iz_up S 106 k (S.1 106 k + 1))) Q) : iz_wp (iz_bI (Mo_finding 82 x S) kk) Q := by
  subst hx
  refine wp_bI ?_
  rw [mo_finding k hk]
  exact wp_some h
theorem ck_t {β : Type} (o : Option β) : iz_ck true o = o := rfl
theorem lt_e {β γ : Type} (v : β) (k : β → γ) : iz_lt v k = k v := rfl
theorem bI_s {β : Type} (r : Int32) (S : iz_S) (k : Int32 → iz_S → Option β) : iz_bI (some (r, S)) k = k r S := rfl
theorem bL_s {β : Type} (r : Int64) (S : iz_S) (k : Int64 → iz_S → Option β) : iz_bL (some (r, S)) k = k r S := rfl
theorem bV_s {β : Type} (S : iz_S) (k : iz_S → Option β) : iz_bV (some S) k = k S := rfl
theorem one_n0 : ((1 : Int32) = 0) = False := by decide
theorem zero_0 : ((0 : Int32) = 0) = True := by decide
theorem pc_of {o o2 : iz_S → Option (Int32 × iz_S)} {S S1 S2 : iz_S} {r : Int32} (h1 : o S = some (r, S1)) (h2 : o2 S1 = some (r, S2)) (h : rl S2) : pc o o2 S := ⟨_, h1, _, h2, rfl, h⟩
theorem g_nI (S : iz_S) (p : Nat) {k : Nat} (hk : k < 2 ^ 31) : iz_g S p (nI k) = S.1 p k := by unfold iz_g; rw [nI_clamp hk]
theorem s_nI (S : iz_S) (p : Nat) {k : Nat} (hk : k < 2 ^ 31) (v : Int32) : iz_s S p (nI k) v = iz_up S p k v := by unfold iz_s; rw [nI_clamp hk]
theorem ic_f1 (S : iz_S) : Ic_finding 0 1 S = some (-1000001, iz_up S 81 1 (S.1 81 1 + 1)) := ic_finding 1 (by decide) S
theorem ic_f2 (S : iz_S) : Ic_finding 0 2 S = some (-1000002, iz_up S 81 2 (S.1 81 2 + 1)) := ic_finding 2 (by decide) S
theorem ic_f3 (S : iz_S) : Ic_finding 0 3 S = some (-1000003, iz_up S 81 3 (S.1 81 3 + 1)) := ic_finding 3 (by decide) S
theorem ic_f4 (S : iz_S) : Ic_finding 0 4 S = some (-1000004, iz_up S 81 4 (S.1 81 4 + 1)) := ic_finding 4 (by decide) S
theorem ic_f5 (S : iz_S) : Ic_finding 0 5 S = some (-1000005, iz_up S 81 5 (S.1 81 5 + 1)) := ic_finding 5 (by decide) S
theorem mo_f1 (S : iz_S) : Mo_finding 82 1 S = some (-1000001, iz_up S 106 1 (S.1 106 1 + 1)) := mo_finding 1 (by decide) S
theorem mo_f2 (S : iz_S) : Mo_finding 82 2 S = some (-1000002, iz_up S 106 2 (S.1 106 2 + 1)) := mo_finding 2 (by decide) S
theorem mo_f3 (S : iz_S) : Mo_finding 82 3 S = some (-1000003, iz_up S 106 3 (S.1 106 3 + 1)) := mo_finding 3 (by decide) S
theorem mo_f4 (S : iz_S) : Mo_finding 82 4 S = some (-1000004, iz_up S 106 4 (S.1 106 4 + 1)) := mo_finding 4 (by decide) S
theorem mo_f5 (S : iz_S) : Mo_finding 82 5 S = some (-1000005, iz_up S 106 5 (S.1 106 5 + 1)) := mo_finding 5 (by decide) S
theorem rf_ic : iz_rf 0 0 = 1 ∧ iz_rf 0 1 = 5 ∧ iz_rf 0 2 = 9 ∧ iz_rf 0 3 = 13 ∧ iz_rf 0 4 = 19 ∧ iz_rf 0 5 = 25 ∧ iz_rf 0 6 = 38 ∧ iz_rf 0 7 = 45 ∧ iz_rf 0 8 = 55 ∧ iz_rf 0 9 = 79 ∧ iz_rf 0 10 = 81 := by decide +kernel
theorem pc_found {S : iz_S} (h : rl S) (x : Int32) : pc (Ic_found 0 x) (Mo_found 82 x) S := by
  by_cases hx : 1 ≤ x ∧ x ≤ 5
  · obtain ⟨k, k1, k2, rfl⟩ := nI_btw (a := 1) (b := 5) (by decide) hx.1 hx.2 (by decide)
    have e1 : iz_rf 0 10 = 81 := by decide +kernel
    have e2 : iz_rf 82 28 = 106 := by decide +kernel
    have i6 := in_nI (n := k) (N := 6) (by omega) (by decide)
    refine pc_of (r := S.1 81 k) (S1 := S) (S2 := S) ?_ ?_ h
    · simp only [Ic_found, Ic_found_23, ic_within, bI_s, if_pos hx, one_n0, if_false, i6, ck_t, e1, g_nI S _ (show k < 2 ^ 31 by omega)]
    · simp only [Mo_found, Mo_found_23, mo_isIn, bI_s, if_pos hx, one_n0, if_false, i6, ck_t, e2, g_nI S _ (show k < 2 ^ 31 by omega), h.2.2.2.2.2.2.2 k (by omega)]
  · refine pc_of (r := -1000001) (S1 := iz_up S 81 1 (S.1 81 1 + 1)) ?_ ?_ (rl_find (k := 1) h)
    · simp only [Ic_found, Ic_found_23, ic_within, bI_s, if_neg hx, if_true, ic_f1]
    · simp only [Mo_found, Mo_found_23, mo_isIn, bI_s, if_neg hx, if_true, mo_f1]
