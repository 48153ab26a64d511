/-! PURE: a block is laid on a column -/
def shU (sh : Nat → Bool) (i : Nat) : Nat → Bool := fun k => if k = i then false else sh k
theorem shU_s (sh : Nat → Bool) (i : Nat) : shU sh i i = false := if_pos rfl
theorem shU_n {sh : Nat → Bool} {i k : Nat} (h : k ≠ i) : shU sh i k = sh k := if_neg h
theorem in_lay {col : Nat → List Nat} {c i k : Nat} (c16 : c < 16) (hk : k ≠ i) : hl_in (hl_r col c (col c ++ [i])) k = hl_in col k := by
  rw [Bool.eq_iff_iff, in_iff, in_iff]
  constructor
  · rintro ⟨d, hd, q⟩
    by_cases e : d = c
    · subst e
      rw [r_same] at q
      rcases List.mem_append.mp q with q | q
      · exact ⟨d, hd, q⟩
      · exact absurd (List.mem_singleton.mp q) hk
    · rw [r_ne e] at q
      exact ⟨d, hd, q⟩
  · rintro ⟨d, hd, q⟩
    by_cases e : d = c
    · subst e
      exact ⟨d, hd, by rw [r_same]; exact List.mem_append_left _ q⟩
    · exact ⟨d, hd, by rw [r_ne e]; exact q⟩
theorem in_laid {col : Nat → List Nat} {c i : Nat} (c16 : c < 16) : hl_in (hl_r col c (col c ++ [i])) i = true := in_iff.mpr ⟨c, c16, by rw [r_same]; simp⟩
theorem hvg_lay {S T : iz_S} {kp wp pp hp sp B w : Nat} {kd wt : Nat → Nat} {sh : Nat → Bool} {col : Nat → List Nat} (h : hvg S kp wp pp hp sp B kd wt sh col) (hi : hvi B w kd wt sh col) {c i : Nat} (c16 : c < 16) (hs : sh i = true) (h5 : (col c).length < 6)
    (f1 : ∀ k, T.1 kp k = S.1 kp k) (f2 : ∀ k, T.1 wp k = S.1 wp k) (f3 : ∀ k, k ≠ i → T.1 pp k = S.1 pp k) (f3i : T.1 pp i = 1) (f4 : ∀ k, k ≠ c → T.1 hp k = S.1 hp k) (f4c : T.1 hp c = nI ((col c).length + 1))
    (f5 : ∀ k, k ≠ 6 * c + (col c).length → T.1 sp k = S.1 sp k) (f5c : T.1 sp (6 * c + (col c).length) = nI i) : hvg T kp wp pp hp sp B kd wt (shU sh i) (hl_r col c (col c ++ [i])) := by
  refine ⟨fun k hk => ?_, fun k hk => ?_, fun k l hk hl => ?_⟩
  · obtain ⟨g1, g2, g3⟩ := h.1 k hk
    rw [f1, f2]
    by_cases e : k = i
    · subst e
      unfold hl_w at g2 ⊢
      unfold hl_p
      rw [if_pos hs] at g2
      rw [f3i, shU_s, in_laid c16]
      exact ⟨g1, g2, rfl⟩
    · unfold hl_w at g2 ⊢
      unfold hl_p at g3 ⊢
      rw [f3 k e, shU_n e, in_lay c16 e]
      exact ⟨g1, g2, g3⟩
  · unfold hl_h
    by_cases e : k = c
    · subst e
      rw [r_same, f4c, List.length_append]
      rfl
    · rw [r_ne e, f4 k e]
      exact h.2.1 k hk
  · unfold hl_h at hl
    by_cases e : k = c
    · subst e
      rw [r_same, List.length_append, List.length_cons, List.length_nil] at hl
      unfold hl_b
      rw [r_same]
      by_cases e2 : l = (col k).length
      · subst e2
        rw [f5c, get_r (Nat.le_refl _), Nat.sub_self]
        rfl
      · rw [f5 _ (by omega), get_l (by omega)]
        exact h.2.2 k l hk (by unfold hl_h; omega)
    · rw [r_ne e] at hl
      have := (hi.2.2.2.1 k hk).1
      rw [f5 _ (by omega)]
      unfold hl_b
      rw [r_ne e]
      exact h.2.2 k l hk hl
theorem hvi_lay {B w : Nat} {kd wt : Nat → Nat} {sh : Nat → Bool} {col : Nat → List Nat} (hi : hvi B w kd wt sh col) {c i : Nat} (iB : i < B) (hs : sh i = true) (h5 : (col c).length < 6) : hvi B w kd wt (shU sh i) (hl_r col c (col c ++ [i])) := by
  obtain ⟨h1, h2, h3, h4, h5', h6⟩ := hi
  have ni : ∀ d, d < 16 → i ∉ col d := fun d hd q => by
    have := (h5' d i hd q).2
    rw [hs] at this
    cases this
  have mm : ∀ d k, d < 16 → k ∈ hl_r col c (col c ++ [i]) d → (k = i ∧ d = c) ∨ (k ≠ i ∧ k ∈ col d) := fun d k hd q => by
    by_cases e : d = c
    · subst e
      rw [r_same] at q
      rcases List.mem_append.mp q with q1 | q1
      · exact Or.inr ⟨fun e => ni d hd (e ▸ q1), q1⟩
      · exact Or.inl ⟨List.mem_singleton.mp q1, rfl⟩
    · rw [r_ne e] at q
      exact Or.inr ⟨fun e => ni d hd (e ▸ q), q⟩
  refine ⟨h1, h2, h3, fun d hd => ?_, fun d k hd q => ?_, fun d d2 k hd hd2 q q2 => ?_⟩
  · by_cases e : d = c
    · subst e
      rw [r_same, List.length_append, List.length_cons, List.length_nil]
      refine ⟨by omega, List.nodup_append.mpr ⟨(h4 d hd).2, by simp, fun x hx y hy q => ?_⟩⟩
      rw [List.mem_singleton.mp hy] at q
      subst q
      exact ni d hd hx
    · rw [r_ne e]; exact h4 d hd
  · rcases mm d k hd q with ⟨rfl, -⟩ | ⟨q1, q2⟩
    · exact ⟨iB, shU_s _ _⟩
    · rw [shU_n q1]; exact h5' d k hd q2
  · rcases mm d k hd q with ⟨q1, q3⟩ | ⟨q1, q3⟩
    · rcases mm d2 k hd2 q2 with ⟨p1, p3⟩ | ⟨p1, p3⟩
      · rw [q3, p3]
      · exact absurd q1 p1
    · rcases mm d2 k hd2 q2 with ⟨p1, p3⟩ | ⟨p1, p3⟩
      · exact absurd p1 q1
      · exact h6 d d2 k hd hd2 q3 p3
theorem hv9_lay {S T : iz_S} {B : Nat} {col : Nat → List Nat} (h : hv9 S B col) {c i : Nat} (c16 : c < 16) (ni : ∀ d, d < 16 → i ∉ col d) (f : ∀ k, k ≠ i → T.1 89 k = S.1 89 k) (fi : T.1 89 i = nI c) : hv9 T B (hl_r col c (col c ++ [i])) := by
  refine ⟨fun d k hd q => ?_, fun k hk q => ?_⟩
  · by_cases e : d = c
    · subst e
      rw [r_same] at q
      rcases List.mem_append.mp q with q | q
      · rw [f k (fun e => ni d hd (e ▸ q))]; exact h.1 d k hd q
      · rw [List.mem_singleton.mp q, fi]
    · rw [r_ne e] at q
      rw [f k (fun e => ni d hd (e ▸ q))]; exact h.1 d k hd q
  · have e : k ≠ i := fun e => by
      subst e
      rw [in_laid c16] at q
      cases q
    rw [f k e]
    rw [in_lay c16 e] at q
    exact h.2 k hk q
theorem ho_lay {S : iz_S} {q d n a : Nat} (hq : hq_p q) (d16 : d < 16) (hH : S.1 (q + 4) d = nI n) (n6 : n < 6) : Ho_layOn q (nI a) (nI d) S = iz_bV (Ho_breakShelves q (nI d) (iz_up (iz_up S (q + 5) (6 * d + n) (nI a)) (q + 4) d (nI (n + 1)))) (fun S3 => some S3) := by
  have i1 := in_ok (n := d) (N := 16) d16 (by decide)
  have i2 := in_ok (n := 6 * d + n) (N := 96) (by omega) (by decide)
  have u : (iz_up S (q + 5) (6 * d + n) (nI a)).1 (q + 4) d = nI n := by rw [up_p _ _ _ _ (by omega), hH]
  simp only [Ho_layOn, ck_t, lt_e, i1, hq.2.2.2.1, hq.2.2.2.2.1, g_nI _ _ (show d < 2 ^ 31 by omega), s_nI _ _ (show d < 2 ^ 31 by omega), hH, nI_6, nI_add, i2, s_nI _ _ (show 6 * d + n < 2 ^ 31 by omega), u, nI_1]
theorem mo_lay {S : iz_S} {d n a : Nat} (d16 : d < 16) (hH : S.1 91 d = nI n) (n6 : n < 6) (ha : a < 60) : Mo_lay 82 (nI a) (nI d) S = some (iz_up (iz_up (iz_up S 90 (6 * d + n) (nI a)) 91 d (nI (n + 1))) 89 a (nI d)) := by
  have i1 := in_ok (n := d) (N := 16) d16 (by decide)
  have i2 := in_ok (n := 6 * d + n) (N := 96) (by omega) (by decide)
  have i3 := in_ok (n := a) (N := 60) ha (by decide)
  have u : (iz_up S 90 (6 * d + n) (nI a)).1 91 d = nI n := by rw [up_p _ _ _ _ (by decide), hH]
  simp only [Mo_lay, ck_t, lt_e, bI_s, bL_s, bV_s, one_n0, zero_0, if_true, if_false, rfs, i1, g_nI _ _ (show d < 2 ^ 31 by omega), s_nI _ _ (show d < 2 ^ 31 by omega), hH, nI_6', nI_add, i2, s_nI _ _ (show 6 * d + n < 2 ^ 31 by omega), u, nI_1, i3, s_nI _ _ (show a < 2 ^ 31 by omega)]
theorem ho_ful {S : iz_S} {c H : Nat} (c16 : c < 16) (hH : S.1 17 c = nI H) (h6 : H ≤ 6) : Ho_isFull 13 (nI c) S = some (if H < 6 then 0 else 1, S) := by
  have i1 := in_ok (n := c) (N := 16) c16 (by decide)
  have e : (nI H < 6) = (H < 6) := propext (nI_ltI (b := 6) (by omega) (by decide))
  simp only [Ho_isFull, Ho_isFull_16, ck_t, lt_e, bI_s, bL_s, bV_s, one_n0, zero_0, if_true, if_false, rfs, i1, g_nI _ _ (show c < 2 ^ 31 by omega), hH, e, nb_0, nb_1, decide_true]
  split <;> rfl
