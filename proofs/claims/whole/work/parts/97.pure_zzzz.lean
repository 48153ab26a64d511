/-! PURE: sales: what fits, on both sides -/
def sf_b (hh : Nat → Nat) (b : Nat → Nat → Nat) (c t : Nat) : Option Nat := if t < hh c then some (b c (hh c - 1 - t)) else none
def sf_f (sv : Nat → Bool) (w : Nat) (g lw up hr kd wt : Nat → Nat) (Wk : Nat) (hh : Nat → Nat) (b : Nat → Nat → Nat) (col : Nat → Nat) (k p t : Nat) : Bool := decide (hd_ (sv k) w (up k) kd wt (g k) (lw k) (hr k) Wk (sf_b hh b (col p) t) = 0)
theorem neg3 : ∀ h, h < 4 → ∀ t, t < 4 → h ≤ t → ¬ (0 : Int32) ≤ nI h - 1 - nI t := by decide +kernel
theorem ho_bt {V : iz_S} {B w : Nat} {hh : Nat → Nat} {b : Nat → Nat → Nat} {kd wt pl : Nat → Nat} (hc : hs_c V 13 B w hh b kd wt pl) (hi : hs_i B w hh b kd wt pl) {c t : Nat} (c16 : c < 16) (t4 : t < 4) : Ho_blockAt 13 (nI c) (nI (hh c) - 1 - nI t) V = some (bkI (sf_b hh b c t), V) := by
  have h6 := hi.2.2.2.1 c c16
  have hH := hc.2.2.2.1 c c16
  unfold sf_b
  by_cases q : t < hh c
  · have e : nI (hh c) - 1 - nI t = nI (hh c - 1 - t) := by rw [nI_m1 (by omega), nI_sb (by omega) (by omega)]
    rw [if_pos q, e, hq_at hq_13 c16 hH h6 (by omega)]
    rw [hc.2.2.2.2 c _ c16 (by omega)]
    rfl
  · have i1 := in_ok (n := c) (N := 16) c16 (by decide)
    have hn : ¬ (0 ≤ nI (hh c) - 1 - nI t ∧ nI (hh c) - 1 - nI t ≤ nI (hh c) - 1) := fun z => neg3 (hh c) (by omega) t t4 (by omega) z.1
    rw [if_neg q]
    simp only [Ho_blockAt, Ho_blockAt_31, ck_t, bI_s, zero_0, if_true, hq_13.2.2.2.1, i1, g_nI _ _ (show c < 2 ^ 31 by omega), hH, ic_within, if_neg hn]
    rfl
theorem sb_wf {S : iz_S} {B w : Nat} {hh : Nat → Nat} {b : Nat → Nat → Nat} {kd wt pl : Nat → Nat} (hc : hs_c S 13 B w hh b kd wt pl) (hi : hs_i B w hh b kd wt pl) {n : Nat} {g lw up hr pr : Nat → Nat} {sv : Nat → Bool} (ho : od S n g lw up hr pr sv) (hb : ob n g lw up hr pr) {W : Nat → Nat} (hW : ∀ i, i < 100 → S.1 12 i = nI (W i) ∧ W i ≤ 40) {N : Nat} {col : Nat → Nat} (hcol : ∀ p, p < N → col p < 16) : sb_w S n N col (fun p => hh (col p)) (sf_f sv w g lw up hr kd wt (wk_w W w) hh b col) := by
  intro V hv k p t kn pN t4
  have c16 := hcol p pN
  have hcV := hs_c_f hc hv (fun i => ⟨rfl, rfl, rfl, rfl, rfl, rfl⟩)
  obtain ⟨a1, a2, a3, a4, a5, a6⟩ := ho.2.2 k kn
  obtain ⟨b1, b2, b3, b4, b5, b6, b7⟩ := hb k kn
  have n10 := ho.1
  have e := or_hind (S := V) (o := k) (sv := sv k) (kd := kd) (wt := wt) (W := W) (w := w) (blk := sf_b hh b (col p) t) (by omega) ((hv 44 k rfl).trans a6) ((hv 42 k rfl).trans a3) b4 ((hv 40 k rfl).trans a1) b1 ((hv 41 k rfl).trans a2) b3 ((hv 43 k rfl).trans a4) b5 hcV.2.1 hi.2.1 (fun i hi => by rw [hv 12 i rfl]; exact hW i hi) (fun x hx => by
    unfold sf_b at hx
    split at hx
    · obtain rfl := Option.some.inj hx
      have bB := (hi.2.2.2.2.1 (col p) (hh (col p) - 1 - t) c16 (by omega)).1
      obtain ⟨k3, w12, -⟩ := hi.2.2.1 _ bB
      obtain ⟨g1, g2, -⟩ := hcV.2.2.1 _ bB
      have B60 := hi.1
      exact ⟨by omega, g1, k3, g2, w12⟩
    · cases hx)
  refine ⟨_, _, ho_bt hcV hi c16 t4, e, ?_⟩
  unfold sf_f
  rw [decide_eq_true_eq, n0_iff (by have := hd_le (sv k) w (up k) kd wt (g k) (lw k) (hr k) (wk_w W w) (sf_b hh b (col p) t); omega)]
theorem sm_wf {S : iz_S} {B w : Nat} {hh : Nat → Nat} {b : Nat → Nat → Nat} {kd wt pl : Nat → Nat} (hm : hs_m S B w hh b kd wt pl) (hi : hs_i B w hh b kd wt pl) {n : Nat} {g lw up hr pr : Nat → Nat} {sv : Nat → Bool} (ho : om S n g lw up hr pr sv) (hb : ob n g lw up hr pr) {W : Nat → Nat} (hW : ∀ i, i < 100 → S.1 94 i = nI (W i) ∧ W i ≤ 40) {N : Nat} {col : Nat → Nat} (hcol : ∀ p, p < N → col p < 16) : sm_w S n N col (fun p => hh (col p)) sv (sf_f sv w g lw up hr kd wt (wk_w W w) hh b col) := by
  intro V u t hv h100 h91 k p kn pN t4
  have c16 := hcol p pN
  have h6 := hi.2.2.2.1 (col p) c16
  obtain ⟨a1, a2, a3, a4, a5, a6⟩ := ho.2.2 k kn
  obtain ⟨b1, b2, b3, b4, b5, b6, b7⟩ := hb k kn
  have n10 := ho.1
  have e := mo_why (S := V) (o := k) (c := col p) (sv := sv k || u k) (kd := kd) (wt := wt) (W := W) (w := w) (H := hh (col p) - t p) (blk := sf_b hh b (col p) (t p)) (by omega) c16 (h100 k (by omega)) ((hv 97 k rfl).trans a3) b4 ((hv 95 k rfl).trans a1) b1 ((hv 96 k rfl).trans a2) b3 ((hv 98 k rfl).trans a4) b5 ((hv 82 13 rfl).trans hm.2.1) hi.2.1 (fun i hi => by rw [hv 94 i rfl]; exact hW i hi) (h91 p pN) (by omega) (fun hx => by
    unfold sf_b at hx
    split at hx
    · cases hx
    · omega) (fun x hx => by
    unfold sf_b at hx
    split at hx
    · obtain rfl := Option.some.inj hx
      have bB := (hi.2.2.2.2.1 (col p) (hh (col p) - 1 - t p) c16 (by omega)).1
      obtain ⟨k3, w12, -⟩ := hi.2.2.1 _ bB
      obtain ⟨g1, g2, -⟩ := hm.2.2.1 _ bB
      have B60 := hi.1
      refine ⟨by omega, ?_, by omega, (hv 86 _ rfl).trans g1, k3, (hv 87 _ rfl).trans g2, w12⟩
      rw [hv 90 _ rfl, show hh (col p) - t p - 1 = hh (col p) - 1 - t p by omega]
      exact hm.2.2.2.2.1 (col p) _ c16 (by omega)
    · cases hx)
  refine ⟨_, e, ?_⟩
  rw [n0_iff (by have := hd_le (sv k || u k) w (up k) kd wt (g k) (lw k) (hr k) (wk_w W w) (sf_b hh b (col p) (t p)); omega)]
  unfold sf_f
  cases hu : u k with
  | false => rw [Bool.or_false, Bool.not_false, Bool.true_and, decide_eq_true_eq]
  | true =>
    rw [Bool.or_true, Bool.not_true, Bool.false_and]
    have : hd_ true w (up k) kd wt (g k) (lw k) (hr k) (wk_w W w) (sf_b hh b (col p) (t p)) = 1 := by cases sf_b hh b (col p) (t p) <;> rfl
    rw [this]
    simp
theorem sf_ff {hh : Nat → Nat} {b : Nat → Nat → Nat} {w : Nat} {g lw up hr kd wt : Nat → Nat} {sv : Nat → Bool} {Wk : Nat} {col : Nat → Nat} {k p t : Nat} (h : sf_f sv w g lw up hr kd wt Wk hh b col k p t = true) : t < hh (col p) ∧ sv k = false := by
  unfold sf_f at h
  rw [decide_eq_true_eq] at h
  unfold sf_b at h
  cases e : sv k with
  | true =>
    rw [e] at h
    split at h <;> (unfold hd_ at h; simp at h)
  | false =>
    rw [e] at h
    split at h
    · rename_i q; exact ⟨q, rfl⟩
    · unfold hd_ at h
      simp only [Bool.false_eq_true, if_false] at h
      split at h <;> omega
