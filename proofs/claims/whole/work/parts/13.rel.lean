def i_Rel (k : Nat) (u : SX) (v : SY) : Prop := ∃ (W C w m : Nat) (cp hq : Int32) (K : Nat → Nat) (L R : Nat → Int32) (x F M pt B P : Nat → Int) (oa ob st ca cb cw hh rr col bas pm pp zz rm : Nat → Int32), u = ((nI W), (nI C), (nI w), (nI m), cp, hq, (fun zi => nI (K zi)), L, R, (fun zi => qa_fe (x zi)), (fun zi => qa_fe (F zi)), (fun zi => qa_fe (M zi)), (fun zi => qa_fe (pt zi)), (fun zi => qa_fe (B zi)), (fun zi => qa_fe (P zi))) ∧ v = ((nI W), (nI C), (nI w), (nI m), cp, hq, (fun zi => nI (K zi)), oa, ob, st, ca, cb, cw, (fun zi => qa_fe (pt zi)), hh, rr, col, bas, pm, pp, zz, rm) ∧ qi_n W C w m ∧ qi_w w K L R oa ob F ∧ qi_x w K x st ∧ qi_c w m F M ca cb cw ∧ qi_q cp w m M x pt B P ∧ qi_h cp hq m P hh rr
theorem i_up {k : Nat} {u : SX} {v : SY} (h : i_Rel k u v) : i_Rel (k + 4) u v := h
section QM
variable {k W C w m : Nat} {cp hq : Int32} {K : Nat → Nat} {L R : Nat → Int32} {x F M pt B P : Nat → Int} {oa ob st ca cb cw hh rr col bas pm pp zz rm : Nat → Int32}
theorem qi_mk (hN : qi_n W C w m) (hW : qi_w w K L R oa ob F) (hX : qi_x w K x st) (hC : qi_c w m F M ca cb cw) (hQ : qi_q cp w m M x pt B P) (hH : qi_h cp hq m P hh rr) : i_Rel k ((nI W), (nI C), (nI w), (nI m), cp, hq, (fun zi => nI (K zi)), L, R, (fun zi => qa_fe (x zi)), (fun zi => qa_fe (F zi)), (fun zi => qa_fe (M zi)), (fun zi => qa_fe (pt zi)), (fun zi => qa_fe (B zi)), (fun zi => qa_fe (P zi))) ((nI W), (nI C), (nI w), (nI m), cp, hq, (fun zi => nI (K zi)), oa, ob, st, ca, cb, cw, (fun zi => qa_fe (pt zi)), hh, rr, col, bas, pm, pp, zz, rm) :=
  ⟨W, C, w, m, cp, hq, K, L, R, x, F, M, pt, B, P, oa, ob, st, ca, cb, cw, hh, rr, col, bas, pm, pp, zz, rm, rfl, rfl, hN, hW, hX, hC, hQ, hH⟩
theorem qi_cp (hQ : qi_q cp w m M x pt B P) : cp = 0 ∨ cp = 1 := hQ.elim (fun z => Or.inl z.1) (fun z => Or.inr z.1)
theorem qi_q0 {w' m' : Nat} {M' x' pt' B' : Nat → Int} (hQ : qi_q 0 w m M x pt B P) : qi_q 0 w' m' M' x' pt' B' P := hQ.elim (fun z => Or.inl z) (fun z => absurd z.1 (by decide))
theorem qi_h0 {m' : Nat} {P' : Nat → Int} {h' r' : Nat → Int32} (hH : qi_h 0 hq m P hh rr) : qi_h 0 hq m' P' h' r' := hH.elim (fun z => Or.inl z) (fun z => absurd z.2.1 (by decide))
theorem qe_x (hX : qi_x w K x st) (hw : w < 32) (h0 : 0 < w) (kd : Nat) : qi_x (w + 1) (qa_un K w kd) x (upd st w 0) := by
  obtain ⟨a, b, c⟩ := hX
  refine ⟨a, fun v h1 h2 => ?_, fun v h1 h2 => ?_⟩
  · by_cases e : v = w
    · rw [e, pk_us, c w hw (Or.inl (Nat.le_refl w)), ← qa_0]
    · rw [pk_un e]
      exact b v h1 h2
  · by_cases e : v = w
    · exact c v h1 (by omega)
    · rw [qa_unn e] at h2
      exact c v h1 (by omega)
theorem qe_var {L' R' oa' ob' : Nat → Int32} (hW : qi_w w K L R oa ob F) (hw : w < 32) (h0 : 0 < w) (kd : Nat) (h1 : ∀ i, i < w → L' i = L i) (h2 : ∀ i, i < w → R' i = R i) (h3 : ∀ i, i < w → oa' i = oa i) (h4 : ∀ i, i < w → ob' i = ob i) (hk : (kd = 3 ∧ ∃ a b, a < w ∧ b < w ∧ oa' w = nI a ∧ ob' w = nI b ∧ L' w = nI a ∧ R' w = nI b) ∨ kd = 1) : qi_w (w + 1) (qa_un K w kd) L' R' oa' ob' (qa_uz F (w * 32 + w) 1) := by
  refine qi_w_ext hw h0 (fun i hi => qa_unn (by omega)) h1 h2 h3 h4 (fun a v ha h32 hv => qa_uzn (by omega)) (fun v h1 h2 => ?_) ?_ hW
  · rw [qa_uzn (by omega)]
    exact hW.2.1 w v hw h2 (Or.inl (Nat.le_refl w))
  · refine Or.inr (Or.inr ⟨?_, fun v hv => ?_⟩)
    · rw [qa_uns]
      rcases hk with ⟨e, hk⟩ | hk
      · exact Or.inl ⟨e, hk⟩
      · exact Or.inr (Or.inl hk)
    · by_cases e : w = v
      · subst e
        rw [qa_uzs, if_pos rfl]
      · rw [qa_uzn (by omega), if_neg e]
        exact hW.2.1 w v hw hv (Or.inl (Nat.le_refl w))
theorem qe_sum (hW : qi_w w K L R oa ob F) (hw : w < 32) (h0 : 0 < w) {a b : Nat} (ha : a < w) (hb : b < w) : qi_w (w + 1) (qa_un K w 2) L R (upd oa w (nI a)) (upd ob w (nI b)) (qa_row F (w * 32) w (fun v => F (a * 32 + v) + F (b * 32 + v))) := by
  refine qi_w_ext hw h0 (fun i hi => qa_unn (by omega)) (fun _ _ => rfl) (fun _ _ => rfl) (fun i hi => pk_un (by omega)) (fun i hi => pk_un (by omega)) (fun a v ha h32 hv => qa_row_out (by omega)) (fun v h1 h2 => ?_) ?_ hW
  · rw [qa_row_out (by omega)]
    exact hW.2.1 w v hw h2 (Or.inl (Nat.le_refl w))
  · refine Or.inl ⟨qa_uns, a, b, ha, hb, pk_us, pk_us, fun v hv => ?_⟩
    rw [qa_row_out (show a * 32 + v < w * 32 ∨ w * 32 + w ≤ a * 32 + v by omega), qa_row_out (show b * 32 + v < w * 32 ∨ w * 32 + w ≤ b * 32 + v by omega)]
    by_cases e : v < w
    · rw [qa_row_in e]
    · rw [qa_row_out (by omega), hW.2.1 w v hw hv (by omega), hW.2.1 a v (by omega) hv (by omega), hW.2.1 b v (by omega) hv (by omega)]
      rfl
theorem qe_mul (hW : qi_w w K L R oa ob F) (hw : w < 32) (h0 : 0 < w) {a : Nat} (c : Int) (ha : a < w) : qi_w (w + 1) (qa_un K w 4) L R (upd oa w (nI a)) (upd ob w (qa_fe c)) (qa_row F (w * 32) w (fun v => c * F (a * 32 + v))) := by
  refine qi_w_ext hw h0 (fun i hi => qa_unn (by omega)) (fun _ _ => rfl) (fun _ _ => rfl) (fun i hi => pk_un (by omega)) (fun i hi => pk_un (by omega)) (fun a v ha h32 hv => qa_row_out (by omega)) (fun v h1 h2 => ?_) ?_ hW
  · rw [qa_row_out (by omega)]
    exact hW.2.1 w v hw h2 (Or.inl (Nat.le_refl w))
  · refine Or.inr (Or.inl ⟨qa_uns, a, c, ha, pk_us, pk_us, fun v hv => ?_⟩)
    rw [qa_row_out (show a * 32 + v < w * 32 ∨ w * 32 + w ≤ a * 32 + v by omega)]
    by_cases e : v < w
    · rw [qa_row_in e]
    · rw [qa_row_out (by omega), hW.2.1 w v hw hv (by omega), hW.2.1 a v (by omega) hv (by omega)]
      rw [Int.mul_zero]
theorem qe_con (hW : qi_w w K L R oa ob F) (hC : qi_c w m F M ca cb cw) (hw : w < 32) (hm : m < 16) {a b : Nat} (ha : a < w) (hb : b < w) : qi_c (w + 1) (m + 1) (qa_uz F (w * 32 + w) 1) (qa_uz (qx_pM M (qa_uz F (w * 32 + w) 1) m w a b w) (qa_mi 2 m w) 1) (upd ca m (nI a)) (upd cb m (nI b)) (upd cw m (nI w)) := by
  have hF : ∀ a v, a < w → v < 32 → qa_uz F (w * 32 + w) 1 (a * 32 + v) = F (a * 32 + v) := fun a v h1 h2 => qa_uzn (by omega)
  have hz : ∀ a v, a < w → w ≤ v → v < 32 → qa_uz F (w * 32 + w) 1 (a * 32 + v) = 0 := fun a v h1 h2 h3 => by
    rw [hF a v h1 h3]
    exact hW.2.1 a v (by omega) h3 (by omega)
  refine qi_c_m hm (fun j hj => pk_un (by omega)) (fun j hj => pk_un (by omega)) (fun j hj => pk_un (by omega)) (fun t j v ht hj h16 hv => ?_) ?_ (qi_c_w (w' := w + 1) (by omega) (by omega) hF hC)
  · rw [qa_uzn (by unfold qa_mi; omega)]
    unfold qx_pM
    rw [qa_row_out (by unfold qa_mi; omega), qa_row_out (by unfold qa_mi; omega)]
  · refine ⟨a, b, by omega, by omega, pk_us, pk_us, Or.inl ⟨w, hw, pk_us, fun v hv => ⟨?_, ?_, ?_⟩⟩⟩
    · rw [qa_uzn (by unfold qa_mi; omega)]
      unfold qx_pM
      rw [qa_row_out (by unfold qa_mi; omega)]
      by_cases e : v < w
      · rw [show qa_mi 0 m v = qa_mi 0 m 0 + v from rfl, qa_row_in e]
      · rw [qa_row_out (by unfold qa_mi; omega), hz a v ha (by omega) hv]
        exact hC.2 0 m v (by omega) (Nat.le_refl m) hm hv
    · rw [qa_uzn (by unfold qa_mi; omega)]
      unfold qx_pM
      by_cases e : v < w
      · rw [show qa_mi 1 m v = qa_mi 1 m 0 + v from rfl, qa_row_in e]
      · rw [qa_row_out (by unfold qa_mi; omega), qa_row_out (by unfold qa_mi; omega), hz b v hb (by omega) hv]
        exact hC.2 1 m v (by omega) (Nat.le_refl m) hm hv
    · by_cases e : v = w
      · subst e
        rw [qa_uzs, if_pos rfl]
      · rw [if_neg e, qa_uzn (by unfold qa_mi; omega)]
        unfold qx_pM
        rw [qa_row_out (by unfold qa_mi; omega), qa_row_out (by unfold qa_mi; omega)]
        exact hC.2 2 m v (by omega) (Nat.le_refl m) hm hv
theorem qe_eq (hW : qi_w w K L R oa ob F) (hC : qi_c w m F M ca cb cw) (h0 : 0 < w) (hw : w ≤ 32) (hm : m < 16) {a b : Nat} (ha : a < w) (hb : b < w) : qi_c w (m + 1) F (qa_uz (qa_row M (qa_mi 0 m 0) w (fun v => F (a * 32 + v) - F (b * 32 + v))) (qa_mi 1 m 0) 1) (upd ca m (nI a)) (upd cb m (nI b)) (upd cw m (-1)) := by
  refine qi_c_m hm (fun j hj => pk_un (by omega)) (fun j hj => pk_un (by omega)) (fun j hj => pk_un (by omega)) (fun t j v ht hj h16 hv => ?_) ?_ hC
  · rw [qa_uzn (by unfold qa_mi; omega), qa_row_out (by unfold qa_mi; omega)]
  · refine ⟨a, b, ha, hb, pk_us, pk_us, Or.inr ⟨pk_us, fun v hv => ⟨?_, ?_, ?_⟩⟩⟩
    · rw [qa_uzn (by unfold qa_mi; omega)]
      by_cases e : v < w
      · rw [show qa_mi 0 m v = qa_mi 0 m 0 + v from rfl, qa_row_in e]
      · rw [qa_row_out (by unfold qa_mi; omega), hW.2.1 a v (by omega) hv (by omega), hW.2.1 b v (by omega) hv (by omega)]
        exact hC.2 0 m v (by omega) (Nat.le_refl m) hm hv
    · by_cases e : v = 0
      · subst e
        rw [qa_uzs, if_pos rfl]
      · rw [if_neg e, qa_uzn (by unfold qa_mi; omega), qa_row_out (by unfold qa_mi; omega)]
        exact hC.2 1 m v (by omega) (Nat.le_refl m) hm hv
    · rw [qa_uzn (by unfold qa_mi; omega), qa_row_out (by unfold qa_mi; omega)]
      exact hC.2 2 m v (by omega) (Nat.le_refl m) hm hv
end QM
theorem i_vc_addInput {k : Nat} {u : SX} {v : SY} (I : i_Rel k u v) (hk : k + 4 ≤ 2050) : wpX_addInput (fun r u' => wpY_addInput (fun r' v' => r' = r ∧ i_Rel (k + 4) u' v') v) u := by
  obtain ⟨W, C, w, m, cp, hq, K, L, R, x, F, M, pt, B, P, oa, ob, st, ca, cb, cw, hh, rr, col, bas, pm, pp, zz, rm, rfl, rfl, hN, hW, hX, hC, hQ, hH⟩ := I
  have same : i_Rel (k + 4) ((nI W), (nI C), (nI w), (nI m), cp, hq, (fun zi => nI (K zi)), L, R, (fun zi => qa_fe (x zi)), (fun zi => qa_fe (F zi)), (fun zi => qa_fe (M zi)), (fun zi => qa_fe (pt zi)), (fun zi => qa_fe (B zi)), (fun zi => qa_fe (P zi))) ((nI W), (nI C), (nI w), (nI m), cp, hq, (fun zi => nI (K zi)), oa, ob, st, ca, cb, cw, (fun zi => qa_fe (pt zi)), hh, rr, col, bas, pm, pp, zz, rm) := qi_mk hN hW hX hC hQ hH
  obtain ⟨n1, n2, n3, n4, n5, n6, n7⟩ := hN
  rcases qi_cp hQ with rfl | rfl
  · by_cases e : w = W
    · subst e
      exact br_t rfl (br_t rfl (br_t rfl (br_t rfl ⟨rfl, same⟩)))
    · have ne : ¬ nI w = nI W := by rw [nI_eq (by omega) (by omega)]; exact e
      refine br_t rfl (br_f ne (qx_mv (by omega) 1 ?_))
      refine br_t rfl (br_f ne ⟨vp_in_nI (by omega) (by omega), ?_⟩)
      rw [nI_clamp (by omega)]
      refine nm_r (qa_updN K w 1) ⟨vp_in_nI (by omega) (by omega), nm_e (nm_r (nI_1 w) ⟨nI_pred w, ?_⟩)⟩
      exact qi_mk ⟨n1, n2, n3, n4, by omega, by omega, n7⟩ (qe_var hW (by omega) (by omega) 1 (fun _ _ => rfl) (fun _ _ => rfl) (fun _ _ => rfl) (fun _ _ => rfl) (Or.inr rfl)) (qe_x hX (by omega) (by omega) 1) (qi_c_w (by omega) (by omega) (fun a v h1 h2 => qa_uzn (by omega)) hC) (qi_q0 hQ) hH
  · exact br_f (by decide) (br_f (by decide) ⟨rfl, same⟩)
