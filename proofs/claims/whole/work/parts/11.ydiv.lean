section QY
variable {W C w m : Nat} {cp hq : Int32} {K : Nat → Nat} {L R oa ob st ca cb cw hh rr col bas pm pp zz rm : Nat → Int32} {x F M pt P : Nat → Int}
theorem qa_seven {t : Nat} (h : t < 7) : t = 0 ∨ t = 1 ∨ t = 2 ∨ t = 3 ∨ t = 4 ∨ t = 5 ∨ t = 6 := by omega
theorem qy_ff {post : SY → Prop} (hW : qi_w w K L R oa ob F) (hX : qi_x w K x st) (hC : qi_c w m F M ca cb cw) (hw : w ≤ 32) (hm : m ≤ 16) {t : Nat} (ht : t < 7) (h : ∀ c b p q z : Nat → Int32, (t < 3 → ∀ k, k < m → p (t * 16 + k) = qa_fe (qa_pz M x pt w m t k)) → (t = 3 → ∀ k, k < 17 → z k = qa_fe (qa_zp pt m k)) → (t = 4 → ∀ k, k < 32 → q k = qa_fe (qa_pp M x pt w m k)) → post ((nI W), (nI C), (nI w), (nI m), cp, hq, (fun zi => nI (K zi)), oa, ob, st, ca, cb, cw, (fun zi => qa_fe (pt zi)), hh, rr, c, b, p, q, z, rm)) : wpY_fillFor post ((nI W), (nI C), (nI w), (nI m), cp, hq, (fun zi => nI (K zi)), oa, ob, st, ca, cb, cw, (fun zi => qa_fe (pt zi)), hh, rr, col, bas, pm, pp, zz, rm) (nI t) := by
  unfold wpY_fillFor
  rcases qa_seven ht with rfl | rfl | rfl | rfl | rfl | rfl | rfl
  · exact br_f (by decide) (qy_fp (t := 0) hW hX hC hw hm (by omega) fun c b p h1 _ => h c b p pp zz (fun _ => h1) (fun e => absurd e (by omega)) (fun e => absurd e (by omega)))
  · exact br_f (by decide) (qy_fp (t := 1) hW hX hC hw hm (by omega) fun c b p h1 _ => h c b p pp zz (fun _ => h1) (fun e => absurd e (by omega)) (fun e => absurd e (by omega)))
  · exact br_f (by decide) (qy_fp (t := 2) hW hX hC hw hm (by omega) fun c b p h1 _ => h c b p pp zz (fun _ => h1) (fun e => absurd e (by omega)) (fun e => absurd e (by omega)))
  · exact br_t (by decide) (br_t (by decide) (qy_Z hm fun z hz => h col bas pm pp z (fun e => absurd e (by omega)) (fun _ => hz) (fun e => absurd e (by omega))))
  · refine br_t (by decide) (br_f (by decide) (br_t (by decide) ?_))
    refine qy_fp (t := 0) hW hX hC hw hm (by omega) fun c1 b1 p1 h1 _ => ?_
    refine qy_fp (t := 1) hW hX hC hw hm (by omega) fun c2 b2 p2 h2 o2 => ?_
    refine qy_fp (t := 2) hW hX hC hw hm (by omega) fun c3 b3 p3 h3 o3 => ?_
    refine qy_P (M := M) (x := x) hm (fun k hk => ?_) (fun k hk => ?_) (fun k hk => ?_) fun q hq => h c3 b3 p3 q zz (fun e => absurd e (by omega)) (fun e => absurd e (by omega)) (fun _ => hq)
    · have := h1 k hk
      rw [show 0 * 16 + k = k by omega] at this
      rw [o3 k (by omega), o2 k (by omega), this]
    · have := h2 k hk
      rw [show 1 * 16 + k = 16 + k by omega] at this
      rw [o3 (16 + k) (by omega), this]
    · have := h3 k hk
      rw [show 2 * 16 + k = 32 + k by omega] at this
      exact this
  · exact br_t (by decide) (br_f (by decide) (br_f (by decide) (h col bas pm pp zz (fun e => absurd e (by omega)) (fun e => absurd e (by omega)) (fun e => absurd e (by omega)))))
  · exact br_t (by decide) (br_f (by decide) (br_f (by decide) (h col bas pm pp zz (fun e => absurd e (by omega)) (fun e => absurd e (by omega)) (fun e => absurd e (by omega)))))
def qy_rd (P : Nat → Int) (t m : Nat) (p q z hh rr : Nat → Int32) : Prop := ∀ k, k < qa_len t m → (t < 3 → p (t * 16 + k) = qa_fe (P (t * 32 + k))) ∧ (t = 3 → z k = qa_fe (P (t * 32 + k))) ∧ (t = 4 → q k = qa_fe (P (t * 32 + k))) ∧ (t = 5 → hh k = qa_fe (P (t * 32 + k))) ∧ (t = 6 → rr k = qa_fe (P (t * 32 + k)))
theorem qa_len_le {t m : Nat} (ht : t < 7) (hm : m ≤ 16) : qa_len t m ≤ 32 ∧ (t = 3 → qa_len t m ≤ 17) ∧ (t ≠ 3 → t ≠ 4 → qa_len t m = m) := by
  unfold qa_len
  split
  · omega
  · split <;> omega
theorem qy_rc {post : Int32 → Prop} {t : Nat} (ht : t < 7) (hm : m ≤ 16) (hr : qy_rd P t m pm pp zz hh rr) {k : Nat} (hk : k < qa_len t m) (h : post (qa_fe (P (t * 32 + k)))) : wpY_readCoef post ((nI W), (nI C), (nI w), (nI m), cp, hq, (fun zi => nI (K zi)), oa, ob, st, ca, cb, cw, (fun zi => qa_fe (pt zi)), hh, rr, col, bas, pm, pp, zz, rm) (nI t) (nI k) := by
  have hl := qa_len_le ht hm
  obtain ⟨r1, r2, r3, r4, r5⟩ := hr k hk
  have cl : (nI k).toNatClampNeg = k := nI_clamp (by omega)
  have c2 : (nI t * 16 + nI k).toNatClampNeg = t * 16 + k := by rw [qn_m16, nI_add, nI_clamp (by omega)]
  unfold wpY_readCoef
  dsimp only
  rw [cl, c2]
  rcases qa_seven ht with rfl | rfl | rfl | rfl | rfl | rfl | rfl
  · rw [← r1 (by omega)] at h
    exact br_f (by decide) ⟨by rw [qn_m16, nI_add]; exact vp_in_nI (by omega) (by omega), h⟩
  · rw [← r1 (by omega)] at h
    exact br_f (by decide) ⟨by rw [qn_m16, nI_add]; exact vp_in_nI (by omega) (by omega), h⟩
  · rw [← r1 (by omega)] at h
    exact br_f (by decide) ⟨by rw [qn_m16, nI_add]; exact vp_in_nI (by omega) (by omega), h⟩
  · rw [← r2 rfl] at h
    exact br_t (by decide) (br_t (by decide) ⟨vp_in_nI (by omega) (by omega), h⟩)
  · rw [← r3 rfl] at h
    exact br_t (by decide) (br_f (by decide) (br_t (by decide) ⟨vp_in_nI (by omega) (by omega), h⟩))
  · rw [← r4 rfl] at h
    exact br_t (by decide) (br_f (by decide) (br_f (by decide) (br_t (by decide) ⟨vp_in_nI (by omega) (by omega), h⟩)))
  · rw [← r5 rfl] at h
    exact br_t (by decide) (br_f (by decide) (br_f (by decide) (br_f (by decide) ⟨vp_in_nI (by omega) (by omega), h⟩)))
theorem qy_len {post : Int32 → Prop} {t : Nat} (ht : t < 7) (hm : 0 < m) (hm2 : m ≤ 16) (h : post (nI (qa_len t m))) : wpY_range post ((nI W), (nI C), (nI w), (nI m), cp, hq, (fun zi => nI (K zi)), oa, ob, st, ca, cb, cw, (fun zi => qa_fe (pt zi)), hh, rr, col, bas, pm, pp, zz, rm) (nI t) := by
  have e3 : (3 : Int32) = nI 3 := by decide
  have e4 : (4 : Int32) = nI 4 := by decide
  unfold wpY_range qa_len at *
  by_cases h3 : t = 3
  · subst h3
    rw [if_pos rfl] at h
    exact br_t rfl (by rw [nI_1]; exact h)
  · rw [if_neg h3] at h
    refine br_f (by rw [e3, nI_eq (by omega) (by omega)]; exact h3) ?_
    by_cases h4 : t = 4
    · subst h4
      rw [if_pos rfl] at h
      refine br_t rfl ?_
      have : (2 : Int32) * nI m - 1 = nI (2 * m - 1) := by
        rw [show (2 : Int32) = nI 2 by decide, pk_mul, show (1 : Int32) = nI 1 by decide, pk_sub (by omega)]
      rw [this]
      exact h
    · rw [if_neg h4] at h
      exact br_f (by rw [e4, nI_eq (by omega) (by omega)]; exact h4) h
theorem qy_ho_l {post : Int32 → Prop} {t : Nat} (ht : t < 7) (hm : m ≤ 16) (hr : qy_rd P t m pm pp zz hh rr) (r : Int) (h : post (qa_fe (qa_ho (fun k => P (t * 32 + k)) r (qa_len t m) 0))) : ∀ c n, c ≤ qa_len t m → c < n → wY_horner_14 post (nI t) (qa_fe r) (nI W) (nI C) (nI w) (nI m) cp hq (fun zi => nI (K zi)) oa ob st ca cb cw (fun zi => qa_fe (pt zi)) hh rr col bas pm pp zz rm n (qa_fe (qa_ho (fun k => P (t * 32 + k)) r (qa_len t m - c) c)) (qx_d c) := by
  have hl := qa_len_le ht hm
  intro c
  induction c with
  | zero =>
    intro n _ hn
    obtain ⟨n, rfl⟩ : ∃ k, n = k + 1 := ⟨n - 1, by omega⟩
    exact br_t qx_d0 h
  | succ c ih =>
    intro n hc hn
    obtain ⟨n, rfl⟩ : ∃ k, n = k + 1 := ⟨n - 1, by omega⟩
    rw [qx_ds]
    have i2 := ih n (by omega) (by omega)
    rw [show qa_len t m - c = (qa_len t m - (c + 1)) + 1 by omega, qa_ho_s] at i2
    refine br_f (nI_pos (by omega)) ?_
    refine qy_rc ht hm hr (by omega) ?_
    rw [qy_ac']
    exact nm_r (qx_dm c) i2
theorem qy_ho {post : Int32 → Prop} {t : Nat} (ht : t < 7) (hm0 : 0 < m) (hm : m ≤ 16) (hr : qy_rd P t m pm pp zz hh rr) (r : Int) (h : post (qa_fe (qa_ho (fun k => P (t * 32 + k)) r (qa_len t m) 0))) : wpY_horner post ((nI W), (nI C), (nI w), (nI m), cp, hq, (fun zi => nI (K zi)), oa, ob, st, ca, cb, cw, (fun zi => qa_fe (pt zi)), hh, rr, col, bas, pm, pp, zz, rm) (nI t) (qa_fe r) := by
  unfold wpY_horner
  refine qy_len ht hm0 hm ?_
  refine nm_r (e' := qx_d (qa_len t m)) rfl ⟨qa_len t m + 1, ?_⟩
  have := qy_ho_l (W := W) (C := C) (w := w) (m := m) (cp := cp) (hq := hq) (K := K) (oa := oa) (ob := ob) (st := st) (ca := ca) (cb := cb) (cw := cw) (hh := hh) (rr := rr) (col := col) (bas := bas) (pm := pm) (pp := pp) (zz := zz) (rm := rm) (pt := pt) ht hm hr r h (qa_len t m) (qa_len t m + 1) (by omega) (by omega)
  rw [Nat.sub_self] at this
  exact this
theorem qa_rm_c {Z g g' : Nat → Int} {m : Nat} (hm : m ≤ 16) (hm0 : 0 < m) (h : ∀ t, t < 32 → g t = g' t) : ∀ s t, t < 32 → qa_rm Z g m s t = qa_rm Z g' m s t := by
  intro s
  induction s with
  | zero => exact h
  | succ s ih =>
    intro t ht
    rw [qa_rm, qa_rm]
    unfold qa_dst
    rw [ih t ht, ih (m - 2 - s + m) (by omega)]
theorem qy_203 {post : Int32 → SY → Prop} (hm : m ≤ 16) (f : Nat → Int) (hf : ∀ k, k < m → rm k = qa_fe (f k)) (h1 : (∀ k, k < m → qa_fe (f k) = 0) → post 1 ((nI W), (nI C), (nI w), (nI m), cp, 1, (fun zi => nI (K zi)), oa, ob, st, ca, cb, cw, (fun zi => qa_fe (pt zi)), hh, (qb_r rr 0 16 (qa_mix m f (fun _ => 0))), col, bas, pm, pp, zz, rm)) (h0 : ¬ (∀ k, k < m → qa_fe (f k) = 0) → post 0 ((nI W), (nI C), (nI w), (nI m), cp, 1, (fun zi => nI (K zi)), oa, ob, st, ca, cb, cw, (fun zi => qa_fe (pt zi)), hh, (qb_r rr 0 16 (qa_mix m f (fun _ => 0))), col, bas, pm, pp, zz, rm)) : ∀ n k (r : Int32), k ≤ m → m - k < n → ((r = 1 ∧ ∀ i, i < k → qa_fe (f i) = 0) ∨ (r = 0 ∧ ¬ (∀ i, i < m → qa_fe (f i) = 0))) → wY_divide_203 post (nI W) (nI C) (nI w) (nI m) cp hq n r (nI k) (fun zi => nI (K zi)) oa ob st ca cb cw (fun zi => qa_fe (pt zi)) hh (qb_r rr 0 16 (qa_mix k f (fun _ => 0))) col bas pm pp zz rm := by
  intro n
  induction n with
  | zero => intros; omega
  | succ n ih =>
    intro k r hk hn hr
    by_cases z : k < m
    · have e2 := qb_u0 (a := rr) (g := qa_mix k f (fun _ => 0)) (m := 16) (k := k) (by omega) (f k)
      rw [qa_mix_s f (fun _ => 0) k] at e2
      refine br_f (nI_ge z (by omega)) ⟨vp_in_nI (by omega) (by omega), vp_in_nI (by omega) (by omega), ?_⟩
      rw [nI_clamp (by omega), hf k z]
      refine nm_r e2 ⟨vp_in_nI (by omega) (by omega), ?_⟩
      by_cases q : qa_fe (f k) = 0
      · refine br_t q (nm_r (nI_1 k) (ih (k + 1) r (by omega) (by omega) ?_))
        rcases hr with ⟨e, hr⟩ | hr
        · refine Or.inl ⟨e, fun i hi => ?_⟩
          by_cases y : i = k
          · rw [y]; exact q
          · exact hr i (by omega)
        · exact Or.inr hr
      · exact br_f q (nm_r (nI_1 k) (ih (k + 1) 0 (by omega) (by omega) (Or.inr ⟨rfl, fun y => q (y k z)⟩)))
    · obtain rfl : k = m := by omega
      refine br_t (nI_le (Nat.le_refl _) (by omega)) ?_
      rcases hr with ⟨rfl, hr⟩ | ⟨rfl, hr⟩
      · exact h1 hr
      · exact h0 hr
theorem qy_137 {post : Int32 → SY → Prop} {J : Int32 → (Nat → Int32) → (Nat → Int32) → (Nat → Int32) → (Nat → Int32) → (Nat → Int32) → (Nat → Int32) → (Nat → Int32) → (Nat → Int32) → (Nat → Int32) → (Nat → Int32) → (Nat → Int32) → (Nat → Int32) → (Nat → Int32) → (Nat → Int32) → (Nat → Int32) → (Nat → Int32) → Prop} (hm : m ≤ 16) {i : Nat} (hi : i + 1 < m) (Z g : Nat → Int) (q : Int) (hZ : ∀ k, k < 17 → zz k = qa_fe (Z k)) (h : J (qx_d (i + m)) (fun zi => nI (K zi)) oa ob st ca cb cw (fun zi => qa_fe (pt zi)) hh rr col bas pm pp zz (qb_r rm 0 32 (qa_dst Z g i q (m + 1)))) : ∀ n k, k ≤ m + 1 → m + 1 - k < n → wY_divide_137 post J (nI (i + m)) (qa_fe q) (nI W) (nI C) (nI w) (nI m) cp hq n (nI k) (fun zi => nI (K zi)) oa ob st ca cb cw (fun zi => qa_fe (pt zi)) hh rr col bas pm pp zz (qb_r rm 0 32 (qa_dst Z g i q k)) := by
  intro n
  induction n with
  | zero => intros; omega
  | succ n ih =>
    intro k hk hn
    by_cases h1 : k ≤ m
    · have h2 : ¬ m < k := by omega
      have e0 : nI (i + m) - nI m = nI i := by rw [pk_sub (by omega), Nat.add_sub_cancel]
      have e1 : qb_r rm 0 32 (qa_dst Z g i q k) (i + k) = qa_fe (g (i + k)) := by rw [qb_in0 (by omega), qa_dst_at]
      have e3 := qb_u0 (a := rm) (g := qa_dst Z g i q k) (m := 32) (k := i + k) (by omega) (g (i + k) - q * Z k)
      rw [← qa_dst_s] at e3
      simp (disch := omega) only [wY_divide_137, h2, e0, e1, e3, hZ k (show k < 17 by omega), qy_sc, not_true, not_false_iff, true_implies, false_implies, true_and, and_true, forall_eq, nI_add, nI_1, nI_clamp, nI_leI, nI_ltI, nI_eq, qn_m32, qn_m16, qv_in, qx_mul, qx_add, qx_sub, qa_upd]
      exact ih (k + 1) (by omega) (by omega)
    · obtain rfl : k = m + 1 := by omega
      exact br_t (nI_lt (by omega) (by omega)) (nm_r (qx_dm (i + m)) h)
theorem qy_108 {post : Int32 → SY → Prop} (hm0 : 0 < m) (hm : m ≤ 16) (Z g : Nat → Int) (hZ : ∀ k, k < 17 → zz k = qa_fe (Z k)) (h : ∃ n, wY_divide_203 post (nI W) (nI C) (nI w) (nI m) cp hq n 1 0 (fun zi => nI (K zi)) oa ob st ca cb cw (fun zi => qa_fe (pt zi)) (qb_r hh 0 16 (qa_hh Z g m)) rr col bas pm pp zz (qb_r rm 0 32 (qa_rm Z g m (m - 1)))) : ∀ c n, c + 1 ≤ m → c < n → wY_divide_108 post (nI W) (nI C) (nI w) (nI m) cp hq n (qx_d (c + m)) (fun zi => nI (K zi)) oa ob st ca cb cw (fun zi => qa_fe (pt zi)) (qb_r hh 0 16 (qa_mix c (fun _ => 0) (qa_hh Z g m))) rr col bas pm pp zz (qb_r rm 0 32 (qa_rm Z g m (m - 1 - c))) := by
  intro c
  induction c with
  | zero =>
    intro n _ hn
    obtain ⟨n, rfl⟩ : ∃ k, n = k + 1 := ⟨n - 1, by omega⟩
    obtain ⟨m, rfl⟩ : ∃ k, m = k + 1 := ⟨m - 1, by omega⟩
    rw [Nat.zero_add, qx_ds]
    refine br_t (nI_lt (by omega) (by omega)) ?_
    rw [qa_mix_0]
    exact h
  | succ c ih =>
    intro n hc hn
    obtain ⟨n, rfl⟩ : ∃ k, n = k + 1 := ⟨n - 1, by omega⟩
    rw [show c + 1 + m = (c + m) + 1 by omega, qx_ds]
    generalize hs : m - 1 - (c + 1) = s
    have hs2 : m - 2 - s = c := by omega
    have hs3 : m - 1 - c = s + 1 := by omega
    have e4 : qa_rm Z g m s (c + m) = qa_hh Z g m c := by
      unfold qa_hh
      rw [if_pos (by omega), show m - 2 - c = s by omega]
    have e1 : qb_r rm 0 32 (qa_rm Z g m s) (c + m) = qa_fe (qa_hh Z g m c) := by rw [qb_in0 (by omega), e4]
    have e0 : nI (c + m) - nI m = nI c := by rw [pk_sub (by omega), Nat.add_sub_cancel]
    have e3 := qb_u0 (a := hh) (g := qa_mix (c + 1) (fun _ => 0) (qa_hh Z g m)) (m := 16) (k := c) (by omega) (qa_hh Z g m c)
    rw [qa_mix_d] at e3
    have i2 := ih n (by omega) (by omega)
    rw [hs3, qa_rm, hs2, e4] at i2
    refine br_f (nI_nlt (by omega) (by omega)) ⟨vp_in_nI (by omega) (by omega), ?_⟩
    rw [nI_clamp (by omega), e1, e0, nI_clamp (by omega)]
    refine nm_e ⟨vp_in_nI (by omega) (by omega), nm_r e3 ⟨m + 2, ?_⟩⟩
    have := qy_137 (post := post) (J := wY_divide_108 post (nI W) (nI C) (nI w) (nI m) cp hq n) (W := W) (C := C) (w := w) (m := m) (cp := cp) (hq := hq) (K := K) (oa := oa) (ob := ob) (st := st) (ca := ca) (cb := cb) (cw := cw) (hh := qb_r hh 0 16 (qa_mix c (fun _ => 0) (qa_hh Z g m))) (rr := rr) (col := col) (bas := bas) (pm := pm) (pp := pp) (zz := zz) (rm := rm) (pt := pt) hm (i := c) (by omega) Z (qa_rm Z g m s) (qa_hh Z g m c) hZ i2 (m + 2) 0 (by omega) (by omega)
    rw [qa_dst_0] at this
    exact this
theorem qy_73 {post : Int32 → SY → Prop} (h : ∃ n, wY_divide_108 post (nI W) (nI C) (nI w) (nI m) cp hq n (2 * nI m - 2) (fun zi => nI (K zi)) oa ob st ca cb cw (fun zi => qa_fe (pt zi)) (qb_r hh 0 16 (fun _ => 0)) (qb_r rr 0 16 (fun _ => 0)) col bas pm pp zz rm) : ∀ n k, k ≤ 16 → 16 - k < n → wY_divide_73 post (nI W) (nI C) (nI w) (nI m) cp hq n (nI k) (fun zi => nI (K zi)) oa ob st ca cb cw (fun zi => qa_fe (pt zi)) (qb_r hh 0 k (fun _ => 0)) (qb_r rr 0 k (fun _ => 0)) col bas pm pp zz rm := by
  intro n
  induction n with
  | zero => intros; omega
  | succ n ih =>
    intro k hk hn
    by_cases h1 : k < 16
    · refine br_f (by rw [qn_16]; exact nI_ge h1 (by omega)) ⟨vp_in_nI h1 (by omega), ?_⟩
      rw [nI_clamp (by omega), qa_0]
      exact nm_r (qb_s0 hh (fun _ => 0) k) ⟨vp_in_nI h1 (by omega), nm_r (qb_s0 rr (fun _ => 0) k) (nm_r (nI_1 k) (ih (k + 1) (by omega) (by omega)))⟩
    · obtain rfl : k = 16 := by omega
      exact br_t (by decide) (nm_e h)
theorem qy_41 {post : Int32 → SY → Prop} (hm0 : 0 < m) (hm : m ≤ 16) (f : Nat → Int) (hf : ∀ k, k < 32 → pp k = qa_fe (f k)) (h : ∃ n, wY_divide_73 post (nI W) (nI C) (nI w) (nI m) cp hq n 0 (fun zi => nI (K zi)) oa ob st ca cb cw (fun zi => qa_fe (pt zi)) hh rr col bas pm pp zz (qb_r rm 0 32 (qa_mix (2 * m - 1) f (fun _ => 0)))) : ∀ n k, k ≤ 2 * m - 1 → 2 * m - 1 - k < n → wY_divide_41 post (nI W) (nI C) (nI w) (nI m) cp hq n (nI k) (fun zi => nI (K zi)) oa ob st ca cb cw (fun zi => qa_fe (pt zi)) hh rr col bas pm pp zz (qb_r rm 0 32 (qa_mix k f (fun _ => 0))) := by
  have l : (2 : Int32) * nI m - 1 = nI (2 * m - 1) := by
    rw [show (2 : Int32) = nI 2 by decide, pk_mul, show (1 : Int32) = nI 1 by decide, pk_sub (by omega)]
  intro n
  induction n with
  | zero => intros; omega
  | succ n ih =>
    intro k hk hn
    by_cases h1 : k < 2 * m - 1
    · have e2 := qb_u0 (a := rm) (g := qa_mix k f (fun _ => 0)) (m := 32) (k := k) (by omega) (f k)
      rw [qa_mix_s f (fun _ => 0) k] at e2
      refine br_f (by rw [l]; exact nI_ge h1 (by omega)) ⟨vp_in_nI (by omega) (by omega), vp_in_nI (by omega) (by omega), ?_⟩
      rw [nI_clamp (by omega), hf k (by omega)]
      exact nm_r e2 (nm_r (nI_1 k) (ih (k + 1) (by omega) (by omega)))
    · obtain rfl : k = 2 * m - 1 := by omega
      exact br_t (by rw [l]; exact nI_le (Nat.le_refl _) (by omega)) h
theorem qy_20 {post : Int32 → SY → Prop} (h : ∃ n, wY_divide_41 post (nI W) (nI C) (nI w) (nI m) cp hq n 0 (fun zi => nI (K zi)) oa ob st ca cb cw (fun zi => qa_fe (pt zi)) hh rr col bas pm pp zz (qb_r rm 0 32 (fun _ => 0))) : ∀ n k, k ≤ 32 → 32 - k < n → wY_divide_20 post (nI W) (nI C) (nI w) (nI m) cp hq n (nI k) (fun zi => nI (K zi)) oa ob st ca cb cw (fun zi => qa_fe (pt zi)) hh rr col bas pm pp zz (qb_r rm 0 k (fun _ => 0)) := by
  intro n
  induction n with
  | zero => intros; omega
  | succ n ih =>
    intro k hk hn
    by_cases h1 : k < 32
    · refine br_f (by rw [qn_32]; exact nI_ge h1 (by omega)) ⟨vp_in_nI h1 (by omega), ?_⟩
      rw [nI_clamp (by omega), qa_0]
      exact nm_r (qb_s0 rm (fun _ => 0) k) (nm_r (nI_1 k) (ih (k + 1) (by omega) (by omega)))
    · obtain rfl : k = 32 := by omega
      exact br_t (by decide) h
theorem qy_dv0 {post : Int32 → SY → Prop} (hm0 : 0 < m) (hm : m ≤ 16) (Z f : Nat → Int) (hZ : ∀ k, k < 17 → zz k = qa_fe (Z k)) (hf : ∀ k, k < 32 → pp k = qa_fe (f k)) (hf0 : ∀ k, 2 * m ≤ k + 1 → f k = 0)
    (h1 : (∀ k, k < m → qa_fe (qa_rr Z f m k) = 0) → ∀ a b c : Nat → Int32, (∀ k, k < m → a k = qa_fe (qa_hh Z f m k) ∧ b k = qa_fe (qa_rr Z f m k)) → post 1 ((nI W), (nI C), (nI w), (nI m), cp, 1, (fun zi => nI (K zi)), oa, ob, st, ca, cb, cw, (fun zi => qa_fe (pt zi)), a, b, col, bas, pm, pp, zz, c))
    (h0 : ¬ (∀ k, k < m → qa_fe (qa_rr Z f m k) = 0) → ∀ a b c : Nat → Int32, (∀ k, k < m → a k = qa_fe (qa_hh Z f m k) ∧ b k = qa_fe (qa_rr Z f m k)) → post 0 ((nI W), (nI C), (nI w), (nI m), cp, 1, (fun zi => nI (K zi)), oa, ob, st, ca, cb, cw, (fun zi => qa_fe (pt zi)), a, b, col, bas, pm, pp, zz, c)) : ∃ n, wY_divide_20 post (nI W) (nI C) (nI w) (nI m) cp hq n 0 (fun zi => nI (K zi)) oa ob st ca cb cw (fun zi => qa_fe (pt zi)) hh rr col bas pm pp zz rm := by
  have ok : ∀ k, k < m → qb_r hh 0 16 (qa_hh Z f m) k = qa_fe (qa_hh Z f m k) ∧ qb_r (qb_r rr 0 16 (fun _ => 0)) 0 16 (qa_mix m (qa_rr Z f m) (fun _ => 0)) k = qa_fe (qa_rr Z f m k) := fun k hk => ⟨qb_in0 (by omega), by rw [qb_in0 (by omega), qa_mix_lt hk]⟩
  have h203 := qy_203 (post := post) (W := W) (C := C) (w := w) (m := m) (cp := cp) (hq := hq) (K := K) (oa := oa) (ob := ob) (st := st) (ca := ca) (cb := cb) (cw := cw) (hh := qb_r hh 0 16 (qa_hh Z f m)) (rr := qb_r rr 0 16 (fun _ => 0)) (col := col) (bas := bas) (pm := pm) (pp := pp) (zz := zz) (rm := qb_r (qb_r rm 0 32 (qa_mix (2 * m - 1) f (fun _ => 0))) 0 32 (qa_rm Z f m (m - 1))) (pt := pt) hm (qa_rr Z f m) (fun k hk => qb_in0 (by omega)) (fun z => h1 z _ _ _ ok) (fun z => h0 z _ _ _ ok) (m + 1) 0 1 (by omega) (by omega) (Or.inl ⟨rfl, fun i hi => by omega⟩)
  rw [qa_mix_0, qb_c (g' := fun _ => 0) (fun _ _ => rfl), nI_0] at h203
  have er : qb_r (qb_r rr 0 16 (fun _ => 0)) 0 16 (fun _ => 0) = qb_r rr 0 16 (fun _ => 0) := by
    funext i
    by_cases q : i < 16
    · rw [qb_in0 q, qb_in0 q]
    · rw [qb_out (by omega)]
  rw [er] at h203
  have h108 := qy_108 (post := post) (W := W) (C := C) (w := w) (m := m) (cp := cp) (hq := hq) (K := K) (oa := oa) (ob := ob) (st := st) (ca := ca) (cb := cb) (cw := cw) (hh := hh) (rr := qb_r rr 0 16 (fun _ => 0)) (col := col) (bas := bas) (pm := pm) (pp := pp) (zz := zz) (rm := qb_r rm 0 32 (qa_mix (2 * m - 1) f (fun _ => 0))) (pt := pt) hm0 hm Z f hZ ⟨m + 1, h203⟩ (m - 1) m (by omega) (by omega)
  have e1 : qb_r hh 0 16 (qa_mix (m - 1) (fun _ => 0) (qa_hh Z f m)) = qb_r hh 0 16 (fun _ => 0) := by
    refine qb_c fun k _ => ?_
    by_cases q : k < m - 1
    · rw [qa_mix_lt q]
    · rw [qa_mix_ge (by omega)]
      unfold qa_hh
      rw [if_neg (by omega)]
  have e2 : qb_r (qb_r rm 0 32 (qa_mix (2 * m - 1) f (fun _ => 0))) 0 32 (qa_rm Z f m (m - 1 - (m - 1))) = qb_r rm 0 32 (qa_mix (2 * m - 1) f (fun _ => 0)) := by
    rw [Nat.sub_self]
    funext i
    by_cases q : i < 32
    · rw [qb_in0 q, qb_in0 q]
      by_cases y : i < 2 * m - 1
      · rw [qa_mix_lt y]
        rfl
      · rw [qa_mix_ge (by omega)]
        exact congrArg qa_fe (hf0 i (by omega))
    · rw [qb_out (by omega)]
  have e3 : qx_d (m - 1 + m) = 2 * nI m - 2 := by
    unfold qx_d
    rw [show (2 : Int32) = nI 2 by decide, pk_mul, pk_sub (by omega), show (1 : Int32) = nI 1 by decide, pk_sub (by omega)]
    congr 1
    omega
  rw [e1, e2, e3] at h108
  have h73 := qy_73 (post := post) (W := W) (C := C) (w := w) (m := m) (cp := cp) (hq := hq) (K := K) (oa := oa) (ob := ob) (st := st) (ca := ca) (cb := cb) (cw := cw) (hh := hh) (rr := rr) (col := col) (bas := bas) (pm := pm) (pp := pp) (zz := zz) (rm := qb_r rm 0 32 (qa_mix (2 * m - 1) f (fun _ => 0))) (pt := pt) ⟨m, h108⟩ 17 0 (by omega) (by omega)
  rw [qb_0, qb_0, nI_0] at h73
  have h41 := qy_41 (post := post) (W := W) (C := C) (w := w) (m := m) (cp := cp) (hq := hq) (K := K) (oa := oa) (ob := ob) (st := st) (ca := ca) (cb := cb) (cw := cw) (hh := hh) (rr := rr) (col := col) (bas := bas) (pm := pm) (pp := pp) (zz := zz) (rm := rm) (pt := pt) hm0 hm f hf ⟨17, h73⟩ (2 * m) 0 (by omega) (by omega)
  rw [qa_mix_0, nI_0] at h41
  have := qy_20 (post := post) (W := W) (C := C) (w := w) (m := m) (cp := cp) (hq := hq) (K := K) (oa := oa) (ob := ob) (st := st) (ca := ca) (cb := cb) (cw := cw) (hh := hh) (rr := rr) (col := col) (bas := bas) (pm := pm) (pp := pp) (zz := zz) (rm := rm) (pt := pt) ⟨2 * m, h41⟩ 33 0 (by omega) (by omega)
  rw [qb_0, nI_0] at this
  exact ⟨33, this⟩
theorem qy_dv {post : Int32 → SY → Prop} (hW : qi_w w K L R oa ob F) (hX : qi_x w K x st) (hC : qi_c w m F M ca cb cw) (hw : w ≤ 32) (hm0 : 0 < m) (hm : m ≤ 16)
    (h1 : (∀ k, k < m → qa_fe (qa_rr (qa_zp pt m) (qa_pp M x pt w m) m k) = 0) → ∀ c b p q z a b' r : Nat → Int32, (∀ k, k < m → a k = qa_fe (qa_hh (qa_zp pt m) (qa_pp M x pt w m) m k) ∧ b' k = qa_fe (qa_rr (qa_zp pt m) (qa_pp M x pt w m) m k)) → post 1 ((nI W), (nI C), (nI w), (nI m), 1, 1, (fun zi => nI (K zi)), oa, ob, st, ca, cb, cw, (fun zi => qa_fe (pt zi)), a, b', c, b, p, q, z, r))
    (h0 : ¬ (∀ k, k < m → qa_fe (qa_rr (qa_zp pt m) (qa_pp M x pt w m) m k) = 0) → ∀ c b p q z a b' r : Nat → Int32, (∀ k, k < m → a k = qa_fe (qa_hh (qa_zp pt m) (qa_pp M x pt w m) m k) ∧ b' k = qa_fe (qa_rr (qa_zp pt m) (qa_pp M x pt w m) m k)) → post 0 ((nI W), (nI C), (nI w), (nI m), 1, 1, (fun zi => nI (K zi)), oa, ob, st, ca, cb, cw, (fun zi => qa_fe (pt zi)), a, b', c, b, p, q, z, r)) : wpY_divide post ((nI W), (nI C), (nI w), (nI m), 1, hq, (fun zi => nI (K zi)), oa, ob, st, ca, cb, cw, (fun zi => qa_fe (pt zi)), hh, rr, col, bas, pm, pp, zz, rm) := by
  unfold wpY_divide
  refine br_f (by decide) ?_
  refine qy_ff (t := 4) hW hX hC hw hm (by omega) fun c b p q z _ _ hq4 => ?_
  refine qy_Z hm fun z' hz => ?_
  exact qy_dv0 hm0 hm _ _ hz (hq4 rfl) (fun k hk => qa_pp_0 M x pt w m k hk hm0) (fun e a b' r hab => h1 e c b p q z' a b' r hab) (fun e a b' r hab => h0 e c b p q z' a b' r hab)
end QY
