/-! PURE: what melts of a block, class side -/
def hfk (k : Nat) : Nat := if k = 0 then 4 else if k = 2 then 6 else 3
theorem fk_e : ∀ k, k < 4 → iz_zV 2 k = nI (hfk k) ∧ hfk k ≤ 6 := by decide +kernel
def hml (W t f wt : Nat) : Nat := if W * t * f / 400 < wt then W * t * f / 400 else wt
def hop (h cv : Nat → Nat) (c l : Nat) : Nat := hop_0 h cv c l + hop_1 h c l + hop_2 h c l + hop_3 h c l + hop_4 h c l
theorem hop_le (h cv : Nat → Nat) (c l : Nat) : hop h cv c l ≤ 50 := by
  have s : ∀ c, hop_s h c l ≤ 10 := fun c => by unfold hop_s; split <;> omega
  have a0 : hop_0 h cv c l ≤ 10 := by unfold hop_0; split <;> omega
  have a1 : hop_1 h c l ≤ 10 := by unfold hop_1; split; omega; exact s _
  have a2 : hop_2 h c l ≤ 10 := by unfold hop_2; split; exact s _; omega
  have a3 : hop_3 h c l ≤ 10 := by unfold hop_3; split; omega; exact s _
  have a4 : hop_4 h c l ≤ 10 := by unfold hop_4; split; exact s _; omega
  unfold hop
  omega
theorem ho_behind {S : iz_S} {q B w : Nat} {h : Nat → Nat} {b : Nat → Nat → Nat} {kd wt pl cv W : Nat → Nat} (hq : hq_p q) (hc : hs_c S q B w h b kd wt pl) (hi : hs_i B w h b kd wt pl) (hv : ∀ c, c < 16 → S.1 11 c = nI (cv c) ∧ cv c ≤ 10) (hW : ∀ i, i < 100 → S.1 12 i = nI (W i) ∧ W i ≤ 40) {c l : Nat} (c16 : c < 16) (hl : l < h c) {x : Nat} (hx : x ≤ 20) : Ho_meltBehind q (nI c) (nI l) (nI x) S = some (nI (hml (wk_w W w) (hop h cv c l + x) (hfk (kd (b c l))) (wt (b c l))), S) := by
  have b60 := hi.1
  have h6 := hi.2.2.2.1 c c16
  obtain ⟨g1, g2⟩ := hi.2.2.2.2.1 c l c16 hl
  obtain ⟨k1, k2, k3⟩ := hi.2.2.1 _ g1
  have e1 := hq_at hq c16 (hc.2.2.2.1 c c16) h6 hl
  rw [hc.2.2.2.2 c l c16 hl] at e1
  have e2 := sh_warm (S := S) (W := W) (fun i hi => (hW i hi).1) (w := w) (by have := hi.2.1; omega)
  have e3 := ho_open hq (fun c hc' => ⟨hc.2.2.2.1 c hc', hi.2.2.2.1 c hc'⟩) hv c16 hl
  have i1 := in_ok (n := b c l) (N := 60) (by omega) (by decide)
  have i2 := in_ok (n := kd (b c l)) (N := 4) (by omega) (by decide)
  obtain ⟨f1, f2⟩ := fk_e (kd (b c l)) (by omega)
  have wl : wk_w W w ≤ 40 := by
    unfold wk_w
    split
    · exact (hW _ (by assumption)).2
    · omega
  have ol := hop_le h cv c l
  have p1 : wk_w W w * (hop h cv c l + x) ≤ 40 * 70 := Nat.mul_le_mul wl (by omega)
  have p2 : wk_w W w * (hop h cv c l + x) * hfk (kd (b c l)) ≤ 40 * 70 * 6 := Nat.mul_le_mul p1 f2
  have p3 : wk_w W w * (hop h cv c l + x) * hfk (kd (b c l)) / 400 ≤ wk_w W w * (hop h cv c l + x) * hfk (kd (b c l)) := Nat.div_le_self _ _
  have dv : nI (wk_w W w * (hop h cv c l + x) * hfk (kd (b c l))) / 400 = nI (wk_w W w * (hop h cv c l + x) * hfk (kd (b c l)) / 400) := pk_div (d := 400) (by omega) (by decide) (by decide)
  have lt : (nI (wk_w W w * (hop h cv c l + x) * hfk (kd (b c l)) / 400) < nI (wt (b c l))) = (wk_w W w * (hop h cv c l + x) * hfk (kd (b c l)) / 400 < wt (b c l)) := propext (nI_ltI (by omega) (by omega))
  have e3' : Ho_openTenths q (nI c) (nI l) S = some (nI (hop h cv c l), S) := e3
  simp only [Ho_meltBehind, e1, bI_s, lt_e, ck_t, hq.2.2.2.2.2, hc.2.1, e2, e3', nI_add, pk_mul, i1, hq.1, hq.2.1, g_nI _ _ (show b c l < 2 ^ 31 by omega), (hc.2.2.1 _ g1).1, (hc.2.2.1 _ g1).2.1, i2, nI_clamp (show kd (b c l) < 2 ^ 31 by omega), f1, dv, lt]
  unfold hml
  split <;> rfl
theorem wl_le (d : Nat → Nat) (c : Nat) : wl_r d c + wl_s d c ≤ 20 := by
  have a : wl_r d c ≤ 10 := by unfold wl_r; split; omega; split <;> omega
  have b : wl_s d c ≤ 10 := by unfold wl_s; split; omega; split <;> omega
  omega
theorem ho_melt {S : iz_S} {q B w : Nat} {h : Nat → Nat} {b : Nat → Nat → Nat} {kd wt pl cv W d : Nat → Nat} (hq : hq_p q) (hc : hs_c S q B w h b kd wt pl) (hi : hs_i B w h b kd wt pl) (hv : ∀ c, c < 16 → S.1 11 c = nI (cv c) ∧ cv c ≤ 10) (hW : ∀ i, i < 100 → S.1 12 i = nI (W i) ∧ W i ≤ 40) (hd : ∀ i, i < 4 → S.1 10 i = nI (d i) ∧ d i ≤ 10) {c l : Nat} (c16 : c < 16) (hl : l < h c) : Ho_meltAt q (nI c) (nI l) S = some (nI (hml (wk_w W w) (hop h cv c l + (wl_r d c + wl_s d c)) (hfk (kd (b c l))) (wt (b c l))), S) := by
  simp only [Ho_meltAt, hq.2.2.2.2.2, sh_wall hd c16, bI_s, ho_behind hq hc hi hv hW c16 hl (wl_le d c)]
