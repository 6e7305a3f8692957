def qb_r (a : Nat → Int32) (b m : Nat) (g : Nat → Int) : Nat → Int32 := fun i => if b ≤ i ∧ i < b + m then qa_fe (g (i - b)) else a i
theorem qb_in {a : Nat → Int32} {g : Nat → Int} {b m i : Nat} (h : i < m) : qb_r a b m g (b + i) = qa_fe (g i) := by
  unfold qb_r
  rw [if_pos (by omega), Nat.add_sub_cancel_left]
theorem qb_in0 {a : Nat → Int32} {g : Nat → Int} {m i : Nat} (h : i < m) : qb_r a 0 m g i = qa_fe (g i) := by
  have := qb_in (a := a) (g := g) (b := 0) h
  rwa [Nat.zero_add] at this
theorem qb_out {a : Nat → Int32} {g : Nat → Int} {b m i : Nat} (h : i < b ∨ b + m ≤ i) : qb_r a b m g i = a i := if_neg (by omega)
theorem qb_0 (a : Nat → Int32) (g : Nat → Int) (b : Nat) : qb_r a b 0 g = a := by
  funext i
  exact if_neg (by omega)
theorem qb_s (a : Nat → Int32) (g : Nat → Int) (b v : Nat) : upd (qb_r a b v g) (b + v) (qa_fe (g v)) = qb_r a b (v + 1) g := by
  funext i
  unfold upd qb_r
  by_cases h : i = b + v
  · subst h
    rw [if_pos rfl, if_pos (by omega), Nat.add_sub_cancel_left]
  · rw [if_neg h]
    by_cases h2 : b ≤ i ∧ i < b + v
    · rw [if_pos h2, if_pos (by omega)]
    · rw [if_neg h2, if_neg (by omega)]
theorem qb_s0 (a : Nat → Int32) (g : Nat → Int) (v : Nat) : upd (qb_r a 0 v g) v (qa_fe (g v)) = qb_r a 0 (v + 1) g := by
  have := qb_s a g 0 v
  rwa [Nat.zero_add] at this
theorem qb_u {a : Nat → Int32} {g : Nat → Int} {b m k : Nat} (h : k < m) (z : Int) : upd (qb_r a b m g) (b + k) (qa_fe z) = qb_r a b m (qa_uz g k z) := by
  funext i
  unfold upd qb_r
  by_cases h1 : i = b + k
  · subst h1
    rw [if_pos rfl, if_pos (by omega), Nat.add_sub_cancel_left, qa_uzs]
  · rw [if_neg h1]
    by_cases h2 : b ≤ i ∧ i < b + m
    · rw [if_pos h2, if_pos h2, qa_uzn (by omega)]
    · rw [if_neg h2, if_neg h2]
theorem qb_u0 {a : Nat → Int32} {g : Nat → Int} {m k : Nat} (h : k < m) (z : Int) : upd (qb_r a 0 m g) k (qa_fe z) = qb_r a 0 m (qa_uz g k z) := by
  have := qb_u (a := a) (g := g) (b := 0) h z
  rwa [Nat.zero_add] at this
theorem qb_c {a : Nat → Int32} {g g' : Nat → Int} {b m : Nat} (h : ∀ i, i < m → g i = g' i) : qb_r a b m g = qb_r a b m g' := by
  funext i
  unfold qb_r
  by_cases h2 : b ≤ i ∧ i < b + m
  · rw [if_pos h2, if_pos h2, h _ (by omega)]
  · rw [if_neg h2, if_neg h2]
section QY
variable {W C w m : Nat} {cp hq : Int32} {K : Nat → Nat} {L R oa ob st ca cb cw hh rr col bas pm pp zz rm : Nat → Int32} {x F M pt : Nat → Int}
theorem qy_fb160 {post : SY → Prop} (hm : m ≤ 16) (s : Int) (f : Nat → Int) (h : post ((nI W), (nI C), (nI w), (nI m), cp, hq, (fun zi => nI (K zi)), oa, ob, st, ca, cb, cw, (fun zi => qa_fe (pt zi)), hh, rr, col, (qb_r bas 0 17 (qa_mix m (fun k => f k * s) f)), pm, pp, zz, rm)) : ∀ n k, k ≤ m → m - k < n → wY_fillBasis_160 post (qa_fe s) (nI W) (nI C) (nI w) (nI m) cp hq n (nI k) (fun zi => nI (K zi)) oa ob st ca cb cw (fun zi => qa_fe (pt zi)) hh rr col (qb_r bas 0 17 (qa_mix k (fun k => f k * s) f)) pm pp zz rm := by
  intro n
  induction n with
  | zero => intros; omega
  | succ n ih =>
    intro k hk hn
    by_cases h1 : k < m
    · have h2 : ¬ m ≤ k := by omega
      have e1 : qb_r bas 0 17 (qa_mix k (fun k => f k * s) f) k = qa_fe (f k) := by rw [qb_in0 (by omega), qa_mix_ge (Nat.le_refl k)]
      have e2 := qb_u0 (a := bas) (g := qa_mix k (fun k => f k * s) f) (m := 17) (k := k) (by omega) (f k * s)
      rw [qa_mix_s (fun k => f k * s) f k] at e2
      simp (disch := omega) only [wY_fillBasis_160, h2, e1, e2, qy_mul, not_true, not_false_iff, true_implies, false_implies, true_and, and_true, forall_eq, nI_add, nI_1, nI_clamp, nI_leI, nI_ltI, nI_eq, qn_m32, qn_m16, qv_in, qx_mul, qx_add, qx_sub, qa_upd]
      exact ih (k + 1) (by omega) (by omega)
    · obtain rfl : k = m := by omega
      exact br_t (nI_le (Nat.le_refl _) (by omega)) h
theorem qy_fb55 {post : SY → Prop} {J : Int32 → Int32 → Int32 → (Nat → Int32) → (Nat → Int32) → (Nat → Int32) → (Nat → Int32) → (Nat → Int32) → (Nat → Int32) → (Nat → Int32) → (Nat → Int32) → (Nat → Int32) → (Nat → Int32) → (Nat → Int32) → (Nat → Int32) → (Nat → Int32) → (Nat → Int32) → (Nat → Int32) → (Nat → Int32) → Prop} {j i d : Nat} (hj : j < 16) (hi : i < 16) (e : Int) (z : Nat → Int) (h : J (nI (d + 1)) (qa_fe (e * (pt j - pt i))) (nI (i + 1)) (fun zi => nI (K zi)) oa ob st ca cb cw (fun zi => qa_fe (pt zi)) hh rr col (qb_r bas 0 17 (qa_lin (pt i) z)) pm pp zz rm) : ∀ c n, c ≤ 17 → c < n → wY_fillBasis_55 post J (nI j) (nI d) (qa_fe e) (nI i) (nI W) (nI C) (nI w) (nI m) cp hq n (qx_d c) (fun zi => nI (K zi)) oa ob st ca cb cw (fun zi => qa_fe (pt zi)) hh rr col (qb_r bas 0 17 (qa_mix c z (qa_lin (pt i) z))) pm pp zz rm := by
  intro c
  induction c with
  | zero =>
    intro n _ hn
    obtain ⟨n, rfl⟩ : ∃ k, n = k + 1 := ⟨n - 1, by omega⟩
    refine br_t qx_d0 (nm_r (nI_1 d) ⟨vp_in_nI (by omega) (by omega), vp_in_nI (by omega) (by omega), ?_⟩)
    rw [nI_clamp (by omega), nI_clamp (by omega), qy_den, qa_mix_0]
    exact nm_r (nI_1 i) h
  | succ c ih =>
    intro n hc hn
    obtain ⟨n, rfl⟩ : ∃ k, n = k + 1 := ⟨n - 1, by omega⟩
    rw [qx_ds]
    refine br_f (nI_pos (by omega)) ?_
    have e1 : qb_r bas 0 17 (qa_mix (c + 1) z (qa_lin (pt i) z)) c = qa_fe (z c) := by rw [qb_in0 (by omega), qa_mix_lt (by omega)]
    have e3 := qb_u0 (a := bas) (g := qa_mix (c + 1) z (qa_lin (pt i) z)) (m := 17) (k := c) (by omega) (qa_lin (pt i) z c)
    rw [qa_mix_d] at e3
    have i2 := ih n (by omega) (by omega)
    by_cases h0 : c = 0
    · subst h0
      refine br_t (by decide) ?_
      unfold wY_fillBasis_78
      refine ⟨vp_in_nI (by omega) (by omega), vp_in_nI (by omega) (by omega), ?_⟩
      rw [nI_clamp (by omega), nI_clamp (by omega), e1, qa_0, qy_sc, ← qa_lin0]
      exact ⟨vp_in_nI (by omega) (by omega), nm_r e3 (nm_r (qx_dm 0) i2)⟩
    · obtain ⟨c, rfl⟩ : ∃ q, c = q + 1 := ⟨c - 1, by omega⟩
      have e0 : nI (c + 1) - 1 = nI c := nI_pred c
      have e2 : qb_r bas 0 17 (qa_mix (c + 1 + 1) z (qa_lin (pt i) z)) c = qa_fe (z c) := by rw [qb_in0 (by omega), qa_mix_lt (by omega)]
      refine br_f (nI_nle (by omega) (by omega)) ?_
      rw [e0, nI_clamp (by omega), e2]
      unfold wY_fillBasis_78
      refine ⟨vp_in_nI (by omega) (by omega), vp_in_nI (by omega) (by omega), vp_in_nI (by omega) (by omega), ?_⟩
      rw [nI_clamp (by omega), nI_clamp (by omega), e1, qy_sc, ← qa_linS]
      exact ⟨vp_in_nI (by omega) (by omega), nm_r e3 (nm_r (qx_dm (c + 1)) i2)⟩
def qy_dg (j i : Nat) : Nat := if i ≤ j then i else i - 1
theorem qy_np_dg (pt : Nat → Int) (j i : Nat) : ∀ k, qy_dg j i + 1 ≤ k → qa_np pt j i k = 0 := by
  unfold qy_dg
  by_cases h : i ≤ j
  · rw [if_pos h, qa_np_lo pt h]
    exact qa_zp_deg pt i
  · rw [if_neg h, show i - 1 + 1 = i by omega]
    exact qa_np_deg pt (by omega)
theorem qy_fb35 {post : SY → Prop} (hm : m ≤ 16) {j : Nat} (hj : j < m) (h : post ((nI W), (nI C), (nI w), (nI m), cp, hq, (fun zi => nI (K zi)), oa, ob, st, ca, cb, cw, (fun zi => qa_fe (pt zi)), hh, rr, col, (qb_r bas 0 17 (qa_mix m (qa_bs pt m j) (qa_np pt j m))), pm, pp, zz, rm)) : ∀ n i, i ≤ m → m - i < n → wY_fillBasis_35 post (nI j) (nI W) (nI C) (nI w) (nI m) cp hq n (nI (qy_dg j i)) (qa_fe (qa_dn pt j i)) (nI i) (fun zi => nI (K zi)) oa ob st ca cb cw (fun zi => qa_fe (pt zi)) hh rr col (qb_r bas 0 17 (qa_np pt j i)) pm pp zz rm := by
  intro n
  induction n with
  | zero => intros; omega
  | succ n ih =>
    intro i hi hn
    by_cases h1 : i < m
    · refine br_f (nI_ge h1 (by omega)) ?_
      have i2 := ih (i + 1) (by omega) (by omega)
      by_cases e : i = j
      · refine br_t (by rw [e]) (nm_r (nI_1 i) ?_)
        subst e
        rw [qa_np_e, qa_dn_e, show qy_dg i (i + 1) = qy_dg i i by unfold qy_dg; rw [if_neg (by omega), if_pos (by omega)]; omega] at i2
        exact i2
      · refine br_f (by rw [nI_eq (by omega) (by omega)]; exact e) (nm_r (nI_1 _) ⟨19, ?_⟩)
        have hd : qy_dg j i ≤ i := by unfold qy_dg; split <;> omega
        rw [qa_np_s pt e, qa_dn_s pt e, show qy_dg j (i + 1) = qy_dg j i + 1 by unfold qy_dg; split <;> split <;> omega] at i2
        have := qy_fb55 (post := post) (J := wY_fillBasis_35 post (nI j) (nI W) (nI C) (nI w) (nI m) cp hq n) (W := W) (C := C) (w := w) (m := m) (cp := cp) (hq := hq) (K := K) (oa := oa) (ob := ob) (st := st) (ca := ca) (cb := cb) (cw := cw) (hh := hh) (rr := rr) (col := col) (bas := bas) (pm := pm) (pp := pp) (zz := zz) (rm := rm) (pt := pt) (j := j) (i := i) (d := qy_dg j i) (by omega) (by omega) (qa_dn pt j i) (qa_np pt j i) i2 (qy_dg j i + 2) 19 (by omega) (by omega)
        rw [qx_ds, qb_c (g' := qa_np pt j i) (fun k hk => ?_)] at this
        · exact this
        · by_cases q : k < qy_dg j i + 2
          · rw [qa_mix_lt q]
          · rw [qa_mix_ge (by omega), qy_np_dg pt j i k (by omega), qa_lin_deg (qy_np_dg pt j i) k (by omega)]
    · obtain rfl : i = m := by omega
      refine br_t (nI_le (Nat.le_refl _) (by omega)) (qy_inv _ ⟨i + 1, ?_⟩)
      have := qy_fb160 (post := post) (W := W) (C := C) (w := w) (m := i) (cp := cp) (hq := hq) (K := K) (oa := oa) (ob := ob) (st := st) (ca := ca) (cb := cb) (cw := cw) (hh := hh) (rr := rr) (col := col) (bas := bas) (pm := pm) (pp := pp) (zz := zz) (rm := rm) (pt := pt) hm (qa_iv (qa_dn pt j i)) (qa_np pt j i) h (i + 1) 0 (by omega) (by omega)
      rw [qa_mix_0] at this
      exact this
theorem qy_fb2 {post : SY → Prop} {j : Nat} (h : ∃ n, wY_fillBasis_35 post (nI j) (nI W) (nI C) (nI w) (nI m) cp hq n 0 1 0 (fun zi => nI (K zi)) oa ob st ca cb cw (fun zi => qa_fe (pt zi)) hh rr col (qb_r bas 0 17 qa_one) pm pp zz rm) : ∀ n k, k ≤ 17 → 17 - k < n → wY_fillBasis_2 post (nI j) (nI W) (nI C) (nI w) (nI m) cp hq n (nI k) (fun zi => nI (K zi)) oa ob st ca cb cw (fun zi => qa_fe (pt zi)) hh rr col (qb_r bas 0 k (fun _ => 0)) pm pp zz rm := by
  have l : (17 : Int32) = nI 17 := by decide
  intro n
  induction n with
  | zero => intros; omega
  | succ n ih =>
    intro k hk hn
    by_cases h1 : k < 17
    · refine br_f (by rw [l]; exact nI_ge h1 (by omega)) ⟨vp_in_nI h1 (by omega), ?_⟩
      rw [nI_clamp (by omega), qa_0]
      exact nm_r (qb_s0 bas (fun _ => 0) k) (nm_r (nI_1 k) (ih (k + 1) (by omega) (by omega)))
    · obtain rfl : k = 17 := by omega
      refine br_t (by decide) (nm_r ?_ h)
      have := qb_u0 (a := bas) (g := fun _ => 0) (m := 17) (k := 0) (by omega) 1
      rw [← qa_1] at this
      rw [this]
      refine qb_c fun i hi => ?_
      unfold qa_uz qa_one
      rfl
theorem qy_fb {post : SY → Prop} (hm : m ≤ 16) {j : Nat} (hj : j < m) (h : ∀ b : Nat → Int32, (∀ k, k < m → b k = qa_fe (qa_bs pt m j k)) → post ((nI W), (nI C), (nI w), (nI m), cp, hq, (fun zi => nI (K zi)), oa, ob, st, ca, cb, cw, (fun zi => qa_fe (pt zi)), hh, rr, col, b, pm, pp, zz, rm)) : wpY_fillBasis post ((nI W), (nI C), (nI w), (nI m), cp, hq, (fun zi => nI (K zi)), oa, ob, st, ca, cb, cw, (fun zi => qa_fe (pt zi)), hh, rr, col, bas, pm, pp, zz, rm) (nI j) := by
  have h35 := qy_fb35 (W := W) (C := C) (w := w) (cp := cp) (hq := hq) (K := K) (oa := oa) (ob := ob) (st := st) (ca := ca) (cb := cb) (cw := cw) (hh := hh) (rr := rr) (col := col) (pm := pm) (pp := pp) (zz := zz) (rm := rm) hm hj (h (qb_r bas 0 17 (qa_mix m (qa_bs pt m j) (qa_np pt j m))) (fun k hk => by rw [qb_in0 (by omega), qa_mix_lt hk])) (m + 1) 0 (by omega) (by omega)
  have e : nI (qy_dg j 0) = 0 := by unfold qy_dg; rw [if_pos (by omega)]; exact nI_0
  rw [e, nI_0, show qa_fe (qa_dn pt j 0) = 1 from qa_1.symm] at h35
  have := qy_fb2 (post := post) (W := W) (C := C) (w := w) (m := m) (cp := cp) (hq := hq) (K := K) (oa := oa) (ob := ob) (st := st) (ca := ca) (cb := cb) (cw := cw) (hh := hh) (rr := rr) (col := col) (bas := bas) (pm := pm) (pp := pp) (zz := zz) (rm := rm) (pt := pt) (j := j) ⟨m + 1, h35⟩ 18 0 (by omega) (by omega)
  rw [qb_0] at this
  exact ⟨18, this⟩
end QY
