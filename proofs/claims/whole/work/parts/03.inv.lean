def qi_wire (K : Nat → Nat) (L R oa ob : Nat → Int32) (F : Nat → Int) (i : Nat) : Prop :=
  (K i = 2 ∧ ∃ a b, a < i ∧ b < i ∧ oa i = nI a ∧ ob i = nI b ∧ ∀ v, v < 32 → F (i * 32 + v) = F (a * 32 + v) + F (b * 32 + v)) ∨
  (K i = 4 ∧ ∃ a c, a < i ∧ oa i = nI a ∧ ob i = qa_fe c ∧ ∀ v, v < 32 → F (i * 32 + v) = c * F (a * 32 + v)) ∨
  (((K i = 3 ∧ ∃ a b, a < i ∧ b < i ∧ oa i = nI a ∧ ob i = nI b ∧ L i = nI a ∧ R i = nI b) ∨ K i = 1 ∨ K i = 0) ∧ ∀ v, v < 32 → F (i * 32 + v) = if i = v then 1 else 0)
def qi_w (w : Nat) (K : Nat → Nat) (L R oa ob : Nat → Int32) (F : Nat → Int) : Prop :=
  (∀ i, i < w → qi_wire K L R oa ob F i) ∧ (∀ i v, i < 32 → v < 32 → (w ≤ i ∨ i < v) → F (i * 32 + v) = 0) ∧ K 0 = 0
def qi_x (w : Nat) (K : Nat → Nat) (x : Nat → Int) (st : Nat → Int32) : Prop :=
  x 0 = 1 ∧ (∀ v, 0 < v → v < 32 → st v = qa_fe (x v)) ∧ (∀ v, v < 32 → (w ≤ v ∨ K v = 2 ∨ K v = 4) → x v = 0)
def qi_row (w : Nat) (F M : Nat → Int) (ca cb cw : Nat → Int32) (j : Nat) : Prop :=
  ∃ a b, a < w ∧ b < w ∧ ca j = nI a ∧ cb j = nI b ∧
    ((∃ c, c < 32 ∧ cw j = nI c ∧ ∀ v, v < 32 → M (qa_mi 0 j v) = F (a * 32 + v) ∧ M (qa_mi 1 j v) = F (b * 32 + v) ∧ M (qa_mi 2 j v) = if v = c then 1 else 0) ∨
     (cw j = -1 ∧ ∀ v, v < 32 → M (qa_mi 0 j v) = F (a * 32 + v) - F (b * 32 + v) ∧ M (qa_mi 1 j v) = (if v = 0 then 1 else 0) ∧ M (qa_mi 2 j v) = 0))
def qi_c (w m : Nat) (F M : Nat → Int) (ca cb cw : Nat → Int32) : Prop :=
  (∀ j, j < m → qi_row w F M ca cb cw j) ∧ (∀ t j v, t < 3 → m ≤ j → j < 16 → v < 32 → M (qa_mi t j v) = 0)
def qi_q (cp : Int32) (w m : Nat) (M x pt B P : Nat → Int) : Prop :=
  (cp = 0 ∧ ∀ i, i < 224 → P i = 0) ∨
  (cp = 1 ∧ 0 < m ∧ (∀ j k, j < m → k < m → B (j * 16 + k) = qa_bs pt m j k) ∧ (∀ k, k < 32 → P (96 + k) = qa_zp pt m k) ∧
    (∀ t k, t < 3 → k < 32 → P (t * 32 + k) = if k < m then qa_pz M x pt w m t k else 0) ∧ (∀ k, k < 32 → P (128 + k) = qa_pp M x pt w m k) ∧ (∀ k, m ≤ k + 1 → k < 32 → P (160 + k) = 0))
def qi_h (cp hq : Int32) (m : Nat) (P : Nat → Int) (h r : Nat → Int32) : Prop :=
  hq = 0 ∨ (hq = 1 ∧ cp = 1 ∧ ∀ k, k < m → h k = qa_fe (P (160 + k)) ∧ r k = qa_fe (P (192 + k)))
def qi_n (W C w m : Nat) : Prop := 8 ≤ W ∧ W ≤ 32 ∧ 4 ≤ C ∧ C ≤ 16 ∧ 1 ≤ w ∧ w ≤ W ∧ m ≤ C
theorem qi_wire_c {K K' : Nat → Nat} {L R oa ob L' R' oa' ob' : Nat → Int32} {F F' : Nat → Int} {i : Nat} (hi : i < 32) (hK : K' i = K i) (h1 : L' i = L i) (h2 : R' i = R i) (h3 : oa' i = oa i) (h4 : ob' i = ob i) (hF : ∀ a v, a ≤ i → v < 32 → F' (a * 32 + v) = F (a * 32 + v)) (h : qi_wire K L R oa ob F i) : qi_wire K' L' R' oa' ob' F' i := by
  unfold qi_wire at *
  rw [hK, h1, h2, h3, h4]
  rcases h with ⟨k, a, b, ha, hb, e1, e2, e3⟩ | ⟨k, a, c, ha, e1, e2, e3⟩ | ⟨k, e3⟩
  · exact Or.inl ⟨k, a, b, ha, hb, e1, e2, fun v hv => by rw [hF i v (by omega) hv, hF a v (by omega) hv, hF b v (by omega) hv, e3 v hv]⟩
  · exact Or.inr (Or.inl ⟨k, a, c, ha, e1, e2, fun v hv => by rw [hF i v (by omega) hv, hF a v (by omega) hv, e3 v hv]⟩)
  · exact Or.inr (Or.inr ⟨k, fun v hv => by rw [hF i v (by omega) hv, e3 v hv]⟩)
theorem qi_w_ext {w : Nat} {K K' : Nat → Nat} {L R oa ob L' R' oa' ob' : Nat → Int32} {F F' : Nat → Int} (hw : w < 32) (h0 : 0 < w) (hK : ∀ i, i < w → K' i = K i) (h1 : ∀ i, i < w → L' i = L i) (h2 : ∀ i, i < w → R' i = R i) (h3 : ∀ i, i < w → oa' i = oa i) (h4 : ∀ i, i < w → ob' i = ob i) (hF : ∀ a v, a ≠ w → a < 32 → v < 32 → F' (a * 32 + v) = F (a * 32 + v)) (hF2 : ∀ v, w < v → v < 32 → F' (w * 32 + v) = 0) (hn : qi_wire K' L' R' oa' ob' F' w) (h : qi_w w K L R oa ob F) : qi_w (w + 1) K' L' R' oa' ob' F' := by
  obtain ⟨a, b, c⟩ := h
  refine ⟨fun i hi => ?_, fun i v hi hv ho => ?_, by rw [hK 0 h0, c]⟩
  · by_cases e : i = w
    · rw [e]; exact hn
    · exact qi_wire_c (by omega) (hK i (by omega)) (h1 i (by omega)) (h2 i (by omega)) (h3 i (by omega)) (h4 i (by omega)) (fun a v ha hv => hF a v (by omega) (by omega) hv) (a i (by omega))
  · by_cases e : i = w
    · subst e; exact hF2 v (by omega) hv
    · rw [hF i v e hi hv]; exact b i v hi hv (by omega)
theorem qi_row_w {w w' : Nat} {F F' M : Nat → Int} {ca cb cw : Nat → Int32} {j : Nat} (hw : w ≤ w') (hw2 : w' ≤ 32) (hF : ∀ a v, a < w → v < 32 → F' (a * 32 + v) = F (a * 32 + v)) (h : qi_row w F M ca cb cw j) : qi_row w' F' M ca cb cw j := by
  obtain ⟨a, b, ha, hb, e1, e2, h⟩ := h
  refine ⟨a, b, by omega, by omega, e1, e2, ?_⟩
  rcases h with ⟨c, hc, e3, h⟩ | ⟨e3, h⟩
  · exact Or.inl ⟨c, hc, e3, fun v hv => by rw [hF a v ha hv, hF b v hb hv]; exact h v hv⟩
  · exact Or.inr ⟨e3, fun v hv => by rw [hF a v ha hv, hF b v hb hv]; exact h v hv⟩
theorem qi_c_w {w w' m : Nat} {F F' M : Nat → Int} {ca cb cw : Nat → Int32} (hw : w ≤ w') (hw2 : w' ≤ 32) (hF : ∀ a v, a < w → v < 32 → F' (a * 32 + v) = F (a * 32 + v)) (h : qi_c w m F M ca cb cw) : qi_c w' m F' M ca cb cw :=
  ⟨fun j hj => qi_row_w hw hw2 hF (h.1 j hj), h.2⟩
theorem qi_row_m {w : Nat} {F M M' : Nat → Int} {ca cb cw ca' cb' cw' : Nat → Int32} {j : Nat} (h1 : ca' j = ca j) (h2 : cb' j = cb j) (h3 : cw' j = cw j) (hM : ∀ t v, t < 3 → v < 32 → M' (qa_mi t j v) = M (qa_mi t j v)) (h : qi_row w F M ca cb cw j) : qi_row w F M' ca' cb' cw' j := by
  obtain ⟨a, b, ha, hb, e1, e2, h⟩ := h
  refine ⟨a, b, ha, hb, by rw [h1, e1], by rw [h2, e2], ?_⟩
  rw [h3]
  rcases h with ⟨c, hc, e3, h⟩ | ⟨e3, h⟩
  · exact Or.inl ⟨c, hc, e3, fun v hv => by rw [hM 0 v (by omega) hv, hM 1 v (by omega) hv, hM 2 v (by omega) hv]; exact h v hv⟩
  · exact Or.inr ⟨e3, fun v hv => by rw [hM 0 v (by omega) hv, hM 1 v (by omega) hv, hM 2 v (by omega) hv]; exact h v hv⟩
theorem qi_c_m {w m : Nat} {F M M' : Nat → Int} {ca cb cw ca' cb' cw' : Nat → Int32} (hm : m < 16) (h1 : ∀ j, j < m → ca' j = ca j) (h2 : ∀ j, j < m → cb' j = cb j) (h3 : ∀ j, j < m → cw' j = cw j) (hM : ∀ t j v, t < 3 → j ≠ m → j < 16 → v < 32 → M' (qa_mi t j v) = M (qa_mi t j v)) (hn : qi_row w F M' ca' cb' cw' m) (h : qi_c w m F M ca cb cw) : qi_c w (m + 1) F M' ca' cb' cw' := by
  refine ⟨fun j hj => ?_, fun t j v ht hj h16 hv => ?_⟩
  · by_cases e : j = m
    · rw [e]; exact hn
    · exact qi_row_m (h1 j (by omega)) (h2 j (by omega)) (h3 j (by omega)) (fun t v ht hv => hM t j v ht e (by omega) hv) (h.1 j (by omega))
  · rw [hM t j v ht (by omega) h16 hv]
    exact h.2 t j v ht (by omega) h16 hv
theorem qi_var {w : Nat} {K : Nat → Nat} {L R oa ob : Nat → Int32} {F : Nat → Int} {i : Nat} (h : qi_w w K L R oa ob F) (hi : i < w) : K i = 0 ∨ K i = 1 ∨ K i = 2 ∨ K i = 3 ∨ K i = 4 := by
  rcases h.1 i hi with z | z | z
  · exact Or.inr (Or.inr (Or.inl z.1))
  · exact Or.inr (Or.inr (Or.inr (Or.inr z.1)))
  · rcases z.1 with y | y | y
    · exact Or.inr (Or.inr (Or.inr (Or.inl y.1)))
    · exact Or.inr (Or.inl y)
    · exact Or.inl y
