/-! PURE: sales: both searches -/
theorem sl_rp {n N : Nat} {pr : Nat → Nat} {fit : Nat → Nat → Nat → Bool} : ∀ (d : Nat) (u : Nat → Bool) (t : Nat → Nat) (R : List (Nat × Nat)) (s : Nat) (B : sl_B), (∀ x, x ∈ R → x.2 < N) → (∀ x, x ∈ B.2 → x.2 < N) → ∀ x, x ∈ (sl_r n N pr fit d u t R s B).2 → x.2 < N := by
  have k0 : ∀ (R : List (Nat × Nat)) (s : Nat) (B : sl_B), (∀ x, x ∈ R → x.2 < N) → (∀ x, x ∈ B.2 → x.2 < N) → ∀ x, x ∈ (sl_k s R B).2 → x.2 < N := fun R s B hR hB x hx => by
    unfold sl_k at hx
    split at hx
    · exact hR x hx
    · exact hB x hx
  intro d
  induction d with
  | zero => intro u t R s B hR hB; exact k0 R s B hR hB
  | succ d ih =>
    intro u t R s B hR hB
    rw [sl_r]
    refine (itr_cg (P := fun B : sl_B => ∀ x, x ∈ B.2 → x.2 < N) (k0 R s B hR hB) (fun k y _ kn hy => ⟨rfl, ?_⟩)).2
    refine (itr_cg (P := fun B : sl_B => ∀ x, x ∈ B.2 → x.2 < N) hy (fun p z _ pN hz => ⟨rfl, ?_⟩)).2
    split
    · exact ih _ _ _ _ z (fun x hx => by
        rcases List.mem_append.mp hx with q | q
        · exact hR x q
        · rw [List.mem_singleton.mp q]
          show p < N
          omega) hz
    · exact hz
def sl_0 : sl_B := (0, [])
theorem sl_i0 (D : List Nat) (pr : Nat → Nat) : sl_i D pr (fun _ => false) (fun _ => 0) [] 0 := ⟨⟨List.nodup_nil, fun x hx => (by cases hx)⟩, fun k => ⟨fun h => (by cases h), fun h => (by cases h)⟩, rfl, fun _ => Nat.le_refl 0⟩
theorem sl_b0 (D : List Nat) (pr : Nat → Nat) : sl_b D pr sl_0 := ⟨⟨List.nodup_nil, fun x hx => (by cases hx)⟩, rfl, Nat.zero_le _⟩
def fsc (p i : Nat) : Bool := p == 49 || p == 50 || p == 45 && (i == 1 || i == 2 || i == 10) || p == 47 || p == 48 || p == 51 || p == 52 || p == 53 || p == 54
/-- what the searches find -/
def sl_F (n N : Nat) (pr : Nat → Nat) (fit : Nat → Nat → Nat → Bool) : sl_B := sl_r n N pr fit 4 (fun _ => false) (fun _ => 0) [] 0 sl_0
theorem sa_all {S : iz_S} {n N : Nat} {pr col hc : Nat → Nat} {fit : Nat → Nat → Nat → Bool} (hf : sb_f S n N pr col hc) (hw : sb_w S n N col hc fit) (hp : ∀ k, pr k ≤ 1000) (hp1 : ∀ k, k < n → 1 ≤ pr k) (h51 : ∀ i, i < 10 → S.1 51 i = 0) (h52 : ∀ i, i < 3 → S.1 52 i = 0) : ∃ V D, Sa_plan 45 S = some V ∧ sa_d V (fun _ => false) (fun _ => 0) [] (sl_F n N pr fit) ∧ fr fsc S V ∧ sa_z n N pr D ∧ (∀ k p t, k < n → p < N → t < 4 → fit k p t = true → k ∈ D) ∧ D.Pairwise (fun a b => pr b ≤ pr a) ∧ (∀ k, k ∈ D → 1 ≤ pr k) := by
  obtain ⟨n10, N3, f1, f2, f3, f4⟩ := id hf
  obtain ⟨V0, hV0⟩ : ∃ V0, V0 = iz_up (iz_up (iz_up S 45 1 0) 45 2 0) 45 10 0 := ⟨_, rfl⟩
  have fV0 : fr fsb S V0 := by rw [hV0]; exact fr_up (fr_up (fr_up (fr_rf _ _) rfl) rfl) rfl
  obtain ⟨V2, D, a1, a2, a3, a4, a5⟩ := sb_17 hf hw n 0 iz_FU [] V0 (by omega) (by have := fu_ge; omega) fV0 (by rw [hV0, up_ne _ _ _ _ (by omega), up_ne _ _ _ _ (by omega), up_same]) (by rw [hV0, up_ne _ _ _ _ (by omega), up_same]) ⟨Nat.le_refl 0, fun x hx => (by cases hx), List.Pairwise.nil, fun i x hx => (by simp at hx), (by rw [hV0, up_same]; rfl), fun x p t h1 => (by omega), fun x p t h1 => (by omega)⟩
  obtain ⟨d1, d2, d3, d4, d5, d6, d7⟩ := a2
  have hz : sa_z n N pr D := ⟨n10, N3, hp, by omega, d2⟩
  have hp2 : ∀ k, k ∈ D → 1 ≤ pr k := fun k hk => hp1 k (d2 k hk)
  have hs : sa_s V2 n N pr fit D := ⟨(a5 45 7 rfl).trans f1, (a5 38 0 rfl).trans f2, fun k hk => (a5 39 k rfl).trans (f4 k hk).1, d5, d4, d7⟩
  obtain ⟨V3, b1, b2, b3⟩ := sa_rows d6 d3 hp2 hz 4 10 (by decide) (fun _ => false) (fun _ => 0) [] 0 sl_0 V2 rfl (sl_i0 D pr) (sl_b0 D pr) hs ⟨fun k hk => (by rw [a5 51 k rfl, h51 k hk]; rfl), fun p hp => (by rw [a5 52 p rfl, h52 p hp]; rfl), fun i x hx => (by simp at hx), a3, a4, fun i x hx => by
    have : ([] : List (Nat × Nat))[i]? = some x := hx
    simp at this⟩
  rw [(sl_eq d6 d3 hp2 4 _ _ _ _ sl_0 (sl_i0 D pr) rfl (sl_b0 D pr)).1] at b2
  refine ⟨V3, D, ?_, b2, fr_tr (fr_mono a5 (fun p i q => ?_)) (fr_mono b3 (fun p i q => ?_)), hz, d6, d3, hp2⟩
  · rw [Sa_plan, lt_e, lt_e, lt_e, ← hV0]
    refine Eq.trans a1 ?_
    rw [show Sa_tryRows 10 45 0 0 V2 = some V3 from b1, bV_s]
  · simp only [fsb, Bool.or_eq_true, Bool.and_eq_true, beq_iff_eq] at q
    simp only [fsc, Bool.or_eq_true, Bool.and_eq_true, beq_iff_eq]
    omega
  · simp only [fsa, Bool.or_eq_true, Bool.and_eq_true, beq_iff_eq] at q
    simp only [fsc, Bool.or_eq_true, Bool.and_eq_true, beq_iff_eq]
    omega
theorem sm_all {S0 : iz_S} {n N : Nat} {pr col hc : Nat → Nat} {sv : Nat → Bool} {fit : Nat → Nat → Nat → Bool} {D : List Nat} (hD : ∀ k p t, k < n → p < N → t < 4 → fit k p t = true → k ∈ D) (hS : D.Pairwise (fun a b => pr b ≤ pr a)) (hp : ∀ k, k ∈ D → 1 ≤ pr k) (hz : sa_z n N pr D) (h0 : sm_s S0 n N pr col) (hf : sm_f n N col hc sv fit) (hw : sm_w S0 n N col hc sv fit) (h46 : S0.1 82 46 = 0) (h45 : S0.1 82 45 = 0) (h100 : ∀ k, k < 10 → S0.1 100 k = bI_ (sv k)) (h91 : ∀ p, p < N → S0.1 91 (col p) = nI (hc p)) : ∃ V, Mo_trySales 10 82 0 0 S0 = some V ∧ sm_d V S0 N col hc sv (fun _ => false) (fun _ => 0) [] (sl_F n N pr fit) ∧ fr fsmr S0 V := by
  obtain ⟨V, a1, a2, a3⟩ := sm_rows hD hS hp hz h0 hf hw 4 10 (by decide) (fun _ => false) (fun _ => 0) [] 0 sl_0 S0 rfl (sl_i0 D pr) (sl_b0 D pr) (fr_rf _ _) ⟨fun k hk => by rw [h100 k hk, Bool.or_false], fun p hp => by rw [h91 p hp]; rfl, fun c _ => rfl, fun i x hx => (by simp at hx), h46, h45, fun i x hx => by
    have : ([] : List (Nat × Nat))[i]? = some x := hx
    simp at this⟩
  exact ⟨V, a1, a2, a3⟩
def fch2 (p i : Nat) : Bool := p == 45 || p == 46 || p == 47 || p == 48 || p == 49 || p == 50 || p == 51 || p == 52 || p == 53 || p == 54 || p == 109 || p == 117 || p == 118 || p == 100 || p == 91 || p == 82 && (i == 32 || i == 45 || i == 46)
theorem rl_sal {S V : iz_S} (h : rl S) (h100 : ∀ k, k < 10 → V.1 100 k = S.1 100 k) (h91 : ∀ c, c < 16 → V.1 91 c = S.1 91 c) (h51 : ∀ i, i < 10 → V.1 51 i = 0) (h52 : ∀ i, i < 3 → V.1 52 i = 0) (hf : fr fch2 S V) : rl V := by
  refine ⟨st_lake hf (fun _ => ⟨rfl, rfl, rfl, rfl, rfl, rfl⟩) h.1, st_shel hf (fun _ => ⟨rfl, rfl, rfl, rfl, rfl, rfl⟩) h.2.1, ?_, ?_, st_rail hf (fun _ => ⟨rfl, rfl, rfl, rfl, rfl, rfl, rfl⟩) rfl h.2.2.2.2.1, st_wait hf (fun _ => ⟨rfl, rfl, rfl⟩) rfl h.2.2.2.2.2.1, ⟨h51, h52⟩, st_found hf (fun _ => ⟨rfl, rfl⟩) h.2.2.2.2.2.2.2⟩
  · obtain ⟨B, w, hh, b, kd, wt, pl, hc, hm, hi, hn, hl⟩ := h.2.2.1
    refine ⟨B, w, hh, b, kd, wt, pl, hs_c_f hc hf (fun i => ⟨rfl, rfl, rfl, rfl, rfl, rfl⟩), ⟨(hf 82 3 rfl).trans hm.1, (hf 82 13 rfl).trans hm.2.1, fun i q => ⟨(hf 86 i rfl).trans (hm.2.2.1 i q).1, (hf 87 i rfl).trans (hm.2.2.1 i q).2.1, (hf 88 i rfl).trans (hm.2.2.1 i q).2.2⟩, fun c q => (h91 c q).trans (hm.2.2.2.1 c q), fun c l q1 q2 => (hf 90 _ rfl).trans (hm.2.2.2.2.1 c l q1 q2), fun c l q1 q2 => (hf 89 _ rfl).trans (hm.2.2.2.2.2.1 c l q1 q2), fun i q1 q2 => (hf 89 _ rfl).trans (hm.2.2.2.2.2.2 i q1 q2)⟩, hi, hn, fun i q => by rw [hf 104 i rfl, hf 13 (6 + i) rfl]; exact hl i q⟩
  · obtain ⟨n, n10, o2, o3, o4, o5, o6⟩ := h.2.2.2.1
    have e44 : V.1 44 = S.1 44 := funext fun i => hf 44 i rfl
    refine ⟨n, n10, (hf 38 0 rfl).trans o2, (hf 82 14 rfl).trans o3, by rw [hf 104 5 rfl, hf 38 2 rfl]; exact o4, by rw [hf 38 1 rfl, e44]; exact o5, fun i hi => ?_⟩
    rw [hf 95 i rfl, hf 96 i rfl, hf 97 i rfl, hf 98 i rfl, hf 99 i rfl, h100 i hi, hf 40 i rfl, hf 41 i rfl, hf 42 i rfl, hf 43 i rfl, hf 39 i rfl, hf 44 i rfl]
    exact o6 i hi
