/-! PURE: what can be reached, reference side: the queue -/
theorem mo_fl98 {f : Nat → Int32} {who : Nat} {sq : Option Nat} (hw : who < 3) (hq : ∀ s, sq = some s → isq s = true) (k89 : Int32 → Int32 → Int32 → Int32 → iz_S → Option iz_S) {a cell : Nat} (hcell : cell < 64) (hr : Rch (bpf f (iz_zV 3 who) sq) cell) : ∀ (j w n : Nat) (S : iz_S) (Q : List Nat), w + j = 4 → j < n → (∀ i, i < 64 → S.1 83 i = f i) → FI S Q 64 → a < Q.length → (Q[a]?).getD 0 = cell → (∀ i, i ∈ Q → Rch (bpf f (iz_zV 3 who) sq) i) →
    ∃ S2 R, Mo_flood_98 82 k89 n (nI who) (bkI sq) (nI Q.length) (nI a) (nI w) S = k89 (nI who) (bkI sq) (nI (Q ++ R).length) (nI (a + 1)) S2 ∧ FI S2 (Q ++ R) 64 ∧ (∀ i, i ∈ Q ++ R → Rch (bpf f (iz_zV 3 who) sq) i) ∧ (∀ v d, w ≤ v → v < 4 → nbr cell v = some d → bpf f (iz_zV 3 who) sq d = true → d ∈ Q ++ R) ∧ fr f78 S S2 := by
  intro j
  induction j with
  | zero =>
    intro w n S Q hw4 hn ht hF ha hc hR
    obtain ⟨m, rfl⟩ : ∃ k, n = k + 1 := ⟨n - 1, by omega⟩
    have lt : ¬ nI w < 4 := nI_nlt (b := 4) (by omega) (by omega)
    refine ⟨S, [], ?_, ?_, ?_, fun v d h1 h2 => by omega, fr_rf _ _⟩
    · rw [List.append_nil]
      show Mo_flood_98b 82 k89 (Mo_flood_98 82 k89 m) (nI who) (bkI sq) (nI Q.length) (nI a) (nI w) S = _
      rw [Mo_flood_98b, if_neg lt, nI_1]
    · rw [List.append_nil]; exact hF
    · rw [List.append_nil]; exact hR
  | succ j ih =>
    intro w n S Q hw4 hn ht hF ha hc hR
    obtain ⟨m, rfl⟩ : ∃ k, n = k + 1 := ⟨n - 1, by omega⟩
    have w4 : w < 4 := by omega
    have lt : nI w < 4 := nI_lt (b := 4) w4 (by omega)
    have ql := q_len hF.1 hF.2.1
    have ia := in_ok (n := a) (N := 64) (by omega) (by decide)
    have i3 := in_ok (n := who) (N := 3) hw (by decide)
    have qa : S.1 108 a = nI cell := by rw [hF.2.2.1 a ha, hc]
    have bs := mo_bs hcell w4 S
    -- nothing is added
    have keep : (∀ d, nbr cell w = some d → bpf f (iz_zV 3 who) sq d = true → d ∈ Q) → Mo_flood_98 82 k89 (m + 1) (nI who) (bkI sq) (nI Q.length) (nI a) (nI w) S = Mo_flood_180 82 k89 (Mo_flood_98 82 k89 m) (nI who) (bkI sq) (nI Q.length) (nI a) (nI w) S →
        ∃ S2 R, Mo_flood_98 82 k89 (m + 1) (nI who) (bkI sq) (nI Q.length) (nI a) (nI w) S = k89 (nI who) (bkI sq) (nI (Q ++ R).length) (nI (a + 1)) S2 ∧ FI S2 (Q ++ R) 64 ∧ (∀ i, i ∈ Q ++ R → Rch (bpf f (iz_zV 3 who) sq) i) ∧ (∀ v d, w ≤ v → v < 4 → nbr cell v = some d → bpf f (iz_zV 3 who) sq d = true → d ∈ Q ++ R) ∧ fr f78 S S2 := fun hd he => by
      obtain ⟨S2, R, a1, a2, a3, a4, a5⟩ := ih (w + 1) m S Q (by omega) (by omega) ht hF ha hc hR
      refine ⟨S2, R, ?_, a2, a3, fun v d h1 h2 h3 h4 => ?_, a5⟩
      · rw [he, Mo_flood_180, nI_1, a1]
      · by_cases e : v = w
        · subst e
          exact List.mem_append_left _ (hd d h3 h4)
        · exact a4 v d (by omega) h2 h3 h4
    have head : Mo_flood_98 82 k89 (m + 1) (nI who) (bkI sq) (nI Q.length) (nI a) (nI w) S = Mo_flood_98b 82 k89 (Mo_flood_98 82 k89 m) (nI who) (bkI sq) (nI Q.length) (nI a) (nI w) S := rfl
    have r30 : iz_rf 82 30 = 108 := rfl
    have r29 : iz_rf 82 29 = 107 := rfl
    have r0 : iz_rf 82 0 = 83 := rfl
    cases hd : nbr cell w with
    | none =>
      refine keep (fun d q => by rw [hd] at q; cases q) ?_
      have ng : bkI none < 0 := by decide +kernel
      rw [hd] at bs
      rw [head, Mo_flood_98b, if_pos lt, ia, ck_t, r30, g_nI _ _ (show a < 2 ^ 31 by omega), qa, bs, bI_s, if_pos ng]
    | some d =>
      have d64 := (adj_sym cell hcell w w4 d hd).1
      have np : ¬ bkI (some d) < 0 := nI_pos (by omega)
      have i1 := in_ok (n := d) (N := 64) d64 (by decide)
      have gd := fun (T : iz_S) p => g_nI T p (show d < 2 ^ 31 by omega)
      rw [hd] at bs
      have mark := hF.2.2.2 d d64
      by_cases dQ : d ∈ Q
      · refine keep (fun d' q _ => by rw [hd] at q; rw [← Option.some.inj q]; exact dQ) ?_
        have n0 : ¬ S.1 107 d = 0 := by rw [mark, if_pos dQ]; decide
        rw [head, Mo_flood_98b, if_pos lt, ia, ck_t, r30, g_nI _ _ (show a < 2 ^ 31 by omega), qa, bs, bI_s, if_neg np, show bkI (some d) = nI d from rfl, i1, ck_t, r29, gd, if_neg n0]
      · have z0 : S.1 107 d = 0 := by rw [mark, if_neg dQ]
        by_cases bd : bpf f (iz_zV 3 who) sq d = true
        · -- it is added
          obtain ⟨n1, n2, n3⟩ := q_new hF.1 hF.2.1 d64 dQ
          have i2 := in_ok (n := Q.length) (N := 64) n3 (by decide)
          have bd' := bd
          unfold bpf at bd'
          rw [Bool.and_eq_true, Bool.and_eq_true, decide_eq_true_eq, decide_eq_true_eq] at bd'
          obtain ⟨-, nt, nn⟩ := bd'
          obtain ⟨T, hT⟩ : ∃ T, T = iz_up (iz_up S 107 d 1) 108 Q.length (nI d) := ⟨_, rfl⟩
          have fT : fr f78 S T := by rw [hT]; exact fr_up (fr_up (fr_rf _ _) rfl) rfl
          have e161 : Mo_flood_161 82 k89 (Mo_flood_98 82 k89 m) (nI who) (bkI sq) (nI Q.length) (nI a) (nI w) (nI d) S = Mo_flood_98 82 k89 m (nI who) (bkI sq) (nI (Q ++ [d]).length) (nI a) (nI (w + 1)) T := by
            rw [List.length_append, List.length_cons, List.length_nil, Mo_flood_161, i1, ck_t, lt_e, i2, ck_t, lt_e, r29, r30, nb_1, s_nI _ _ (show d < 2 ^ 31 by omega), s_nI _ _ (show Q.length < 2 ^ 31 by omega), ← hT, Mo_flood_180, nI_1, nI_1]
          have e98 : Mo_flood_98 82 k89 (m + 1) (nI who) (bkI sq) (nI Q.length) (nI a) (nI w) S = Mo_flood_161 82 k89 (Mo_flood_98 82 k89 m) (nI who) (bkI sq) (nI Q.length) (nI a) (nI w) (nI d) S := by
            rw [head, Mo_flood_98b, if_pos lt, ia, ck_t, r30, g_nI _ _ (show a < 2 ^ 31 by omega), qa, bs, bI_s, if_neg np, show bkI (some d) = nI d from rfl, i1, ck_t, r29, gd, if_pos z0, ck_t, i3, ck_t, r0, gd, ht d d64, nI_clamp (show who < 2 ^ 31 by omega), if_neg nt]
            cases sq with
            | none =>
              have ng : bkI none < 0 := by decide +kernel
              rw [if_pos ng]
            | some s =>
              have ng : ¬ bkI (some s) < 0 := nI_pos (by
                have := hq s rfl
                unfold isq at this
                rw [Bool.and_eq_true, decide_eq_true_eq] at this
                omega)
              have qi : ¬ io d s = true := by
                unfold nio at nn
                simpa using nn
              rw [if_neg ng, show bkI (some s) = nI s from rfl, mo_isOf (hq s rfl) d64, bI_s, if_neg qi, if_pos rfl]
          have ga : ((Q ++ [d])[a]?).getD 0 = cell := by rw [get_l ha]; exact hc
          obtain ⟨S2, R, a1, a2, a3, a4, a5⟩ := ih (w + 1) m T (Q ++ [d]) (by omega) (by omega) (fun i hi => by rw [fT 83 i rfl]; exact ht i hi) ⟨n1, n2, fun b hb => by
            rw [hT]
            rw [List.length_append, List.length_cons, List.length_nil] at hb
            by_cases e : b = Q.length
            · subst e
              rw [up_same, get_r (Nat.le_refl _), Nat.sub_self]; rfl
            · rw [up_ne _ _ _ _ (Or.inr e), up_p _ _ _ _ (by decide), get_l (by omega)]
              exact hF.2.2.1 b (by omega), fun i hi => by
            rw [hT, up_p _ _ _ _ (by decide)]
            by_cases e : i = d
            · subst e; rw [up_same, if_pos (by simp)]
            · rw [up_ne _ _ _ _ (Or.inr e), hF.2.2.2 i hi]
              have : (i ∈ Q ++ [d]) = (i ∈ Q) := by simp [e]
              simp only [this]⟩ (by rw [List.length_append]; omega) ga (fun i hi => by
            rcases List.mem_append.mp hi with q | q
            · exact hR i q
            · rw [List.mem_singleton.mp q]; exact rch_s hr ⟨w, w4, hd⟩ bd)
          refine ⟨S2, d :: R, ?_, ?_, ?_, fun v d2 h1 h2 h3 h4 => ?_, fr_tr fT a5⟩
          · rw [e98, e161, a1, List.append_assoc]; rfl
          · rw [List.append_assoc] at a2; exact a2
          · rw [List.append_assoc] at a3; exact a3
          · rw [List.append_assoc] at a4
            by_cases e : v = w
            · subst e
              rw [hd] at h3
              rw [← Option.some.inj h3]
              simp
            · exact a4 v d2 (by omega) h2 h3 h4
        · refine keep (fun d' q h4 => by rw [hd] at q; rw [← Option.some.inj q] at h4; exact absurd h4 bd) ?_
          rw [head, Mo_flood_98b, if_pos lt, ia, ck_t, r30, g_nI _ _ (show a < 2 ^ 31 by omega), qa, bs, bI_s, if_neg np, show bkI (some d) = nI d from rfl, i1, ck_t, r29, gd, if_pos z0, ck_t, i3, ck_t, r0, gd, ht d d64, nI_clamp (show who < 2 ^ 31 by omega)]
          by_cases nt : f d < iz_zV 3 who
          · rw [if_pos nt]
          · rw [if_neg nt]
            cases sq with
            | none =>
              exfalso
              apply bd
              unfold bpf nio
              simp [d64, nt]
            | some s =>
              have ng : ¬ bkI (some s) < 0 := nI_pos (by
                have := hq s rfl
                unfold isq at this
                rw [Bool.and_eq_true, decide_eq_true_eq] at this
                omega)
              have qi : io d s = true := by
                cases e : io d s with
                | true => rfl
                | false =>
                  exfalso
                  apply bd
                  unfold bpf nio
                  simp [d64, nt, e]
              rw [if_neg ng, show bkI (some s) = nI s from rfl, mo_isOf (hq s rfl) d64, bI_s, if_pos qi, if_neg (by decide)]
theorem mo_fl89 {f : Nat → Int32} {who : Nat} {sq : Option Nat} (hw : who < 3) (hq : ∀ s, sq = some s → isq s = true) : ∀ (j a n : Nat) (S : iz_S) (Q : List Nat), a + j = 64 → j < n → (∀ i, i < 64 → S.1 83 i = f i) → FI S Q 64 → a ≤ Q.length → (∀ i, i ∈ Q → Rch (bpf f (iz_zV 3 who) sq) i) → (∀ b d, b < a → adj ((Q[b]?).getD 0) d → bpf f (iz_zV 3 who) sq d = true → d ∈ Q) →
    ∃ S2 Q2, Mo_flood_89 82 n (nI who) (bkI sq) (nI Q.length) (nI a) S = some S2 ∧ FI S2 Q2 64 ∧ (∀ i, i ∈ Q → i ∈ Q2) ∧ (∀ i, i ∈ Q2 → Rch (bpf f (iz_zV 3 who) sq) i) ∧ (∀ b d, b < Q2.length → adj ((Q2[b]?).getD 0) d → bpf f (iz_zV 3 who) sq d = true → d ∈ Q2) ∧ fr f78 S S2 := by
  intro j
  induction j with
  | zero =>
    intro a n S Q ha hn ht hF hl hR hC
    obtain ⟨m, rfl⟩ : ∃ k, n = k + 1 := ⟨n - 1, by omega⟩
    have ql := q_len hF.1 hF.2.1
    have lt : ¬ nI a < nI Q.length := nI_nlt (by omega) (by omega)
    refine ⟨S, Q, ?_, hF, fun i h => h, hR, fun b d hb => hC b d (by omega), fr_rf _ _⟩
    show Mo_flood_89b 82 (Mo_flood_89 82 m) (nI who) (bkI sq) (nI Q.length) (nI a) S = _
    rw [Mo_flood_89b, if_neg lt]
  | succ j ih =>
    intro a n S Q ha hn ht hF hl hR hC
    obtain ⟨m, rfl⟩ : ∃ k, n = k + 1 := ⟨n - 1, by omega⟩
    have ql := q_len hF.1 hF.2.1
    by_cases hlt : a < Q.length
    · have lt : nI a < nI Q.length := nI_lt hlt (by omega)
      have mem : (Q[a]?).getD 0 ∈ Q := by
        rw [List.getElem?_eq_getElem hlt]
        exact List.getElem_mem hlt
      obtain ⟨S1, R, a1, a2, a3, a4, a5⟩ := mo_fl98 (a := a) hw hq (Mo_flood_89 82 m) (hF.2.1 _ mem) (hR _ mem) 4 0 iz_FU S Q (by omega) (by have := fu_ge; omega) ht hF hlt rfl hR
      obtain ⟨S2, Q2, b1, b2, b3, b4, b5, b6⟩ := ih (a + 1) m S1 (Q ++ R) (by omega) (by omega) (fun i hi => by rw [a5 83 i rfl]; exact ht i hi) a2 (by rw [List.length_append]; omega) a3 (fun b d hb hd hbd => by
        by_cases e : b = a
        · subst e
          rw [get_l hlt] at hd
          obtain ⟨v, v4, hv⟩ := hd
          exact a4 v d (Nat.zero_le _) v4 hv hbd
        · rw [get_l (by omega)] at hd
          exact List.mem_append_left _ (hC b d (by omega) hd hbd))
      refine ⟨S2, Q2, ?_, b2, fun i h => b3 i (List.mem_append_left _ h), b4, b5, fr_tr a5 b6⟩
      rw [← b1]
      show Mo_flood_89b 82 (Mo_flood_89 82 m) (nI who) (bkI sq) (nI Q.length) (nI a) S = _
      rw [Mo_flood_89b, if_pos lt]
      exact a1
    · have lt : ¬ nI a < nI Q.length := nI_nlt (by omega) (by omega)
      refine ⟨S, Q, ?_, hF, fun i h => h, hR, fun b d hb => hC b d (by omega), fr_rf _ _⟩
      show Mo_flood_89b 82 (Mo_flood_89 82 m) (nI who) (bkI sq) (nI Q.length) (nI a) S = _
      rw [Mo_flood_89b, if_neg lt]
theorem mo_flood {f : Nat → Int32} {S : iz_S} {who : Nat} {sq : Option Nat} (hw : who < 3) (hq : ∀ s, sq = some s → isq s = true) (ht : ∀ i, i < 64 → S.1 83 i = f i) :
    ∃ S2, Mo_flood 82 (nI who) (bkI sq) S = some S2 ∧ (∀ i, i < 64 → (S2.1 107 i = 1 ∧ Rch (bpf f (iz_zV 3 who) sq) i) ∨ (S2.1 107 i = 0 ∧ ¬ Rch (bpf f (iz_zV 3 who) sq) i)) ∧ fr f78 S S2 := by
  obtain ⟨S1, Q, a1, a2, a3, a4, a5⟩ := mo_fl5 hw hq 64 0 iz_FU S [] (by omega) (by have := fu_ge; omega) ht ⟨List.nodup_nil, fun i h => absurd h List.not_mem_nil, fun a h => absurd h (Nat.not_lt_zero a), fun i h => absurd h (Nat.not_lt_zero i)⟩ (fun i h => absurd h List.not_mem_nil) (fun i h => absurd h (Nat.not_lt_zero i))
  obtain ⟨S2, Q2, b1, b2, b3, b4, b5, b6⟩ := mo_fl89 hw hq 64 0 iz_FU S1 Q (by omega) (by have := fu_ge; omega) (fun i hi => by rw [a5 83 i rfl]; exact ht i hi) a2 (Nat.zero_le _) (fun i hi => rch_0 (a3 i hi).1 (a3 i hi).2) (fun b d h => by omega)
  refine ⟨S2, ?_, fun i hi => ?_, fr_tr a5 b6⟩
  · rw [Mo_flood, show Mo_flood_5 82 iz_FU (nI who) (bkI sq) 0 0 S = _ from a1]
    exact b1
  · have mk := b2.2.2.2 i hi
    by_cases q : i ∈ Q2
    · rw [if_pos q] at mk
      exact Or.inl ⟨mk, b4 i q⟩
    · rw [if_neg q] at mk
      refine Or.inr ⟨mk, fun h => q ?_⟩
      refine h (fun i => i ∈ Q2) (fun k h8 hb => b3 k (a4 k h8 hb)) (fun k d hk hd hb => ?_)
      obtain ⟨b, hb2, e⟩ := List.mem_iff_getElem.mp hk
      refine b5 b d hb2 ?_ hb
      rw [List.getElem?_eq_getElem hb2, e]
      exact hd
