/-! ===== cut off at a smaller degree; leads and products ===== -/
section TRU
variable {p n : Int} {w : Nat → Int} {N D : Nat} {F : List Tm → Prop}
theorem ml_le (h : N ≤ D) : (ml n w N).length ≤ (ml n w D).length := by
  obtain ⟨M, e⟩ := ml_pre (n := n) (w := w) h
  rw [e, List.length_append]; omega
theorem ml_get (h : N ≤ D) {c : Nat} (hc : c < (ml n w N).length) : (ml n w D).getD c 0 = (ml n w N).getD c 0 := by
  obtain ⟨M, e⟩ := ml_pre (n := n) (w := w) h
  rw [List.getD_eq_getElem?_getD, List.getD_eq_getElem?_getD, e, List.getElem?_append_left hc]
theorem tr_vec (h : N ≤ D) (φ : Int → Int) : ∀ c, c < (ml n w N).length → vecM (ml n w D) φ c = vecM (ml n w N) φ c := fun c hc => by
  unfold vecM; rw [ml_get h hc]
theorem tr_down (hw : wtOK w) (h : N ≤ D) (hD : D ≤ 25) (hF : ∀ f, F f → okQ p n w f) {y : Vc} (hy : GenU p n w F D y) : GenU p n w F N y := by
  have hS : Sub p (ml n w N).length (GenU p n w F N) := spn_sub
  have hS2 : Sub p (ml n w D).length (GenU p n w F N) := ⟨hS.1, hS.2.1, hS.2.2.1, fun x y hc hx => hS.2.2.2 x y (hc.wk (ml_le h)) hx⟩
  refine spn_le hS2 (fun t ht => ?_) hy
  obtain ⟨f, m, hf, hm, e⟩ := ht
  rw [e]
  have k := vk_mem hD hm
  have k2 := k.2.2
  refine hS.2.2.2 (vecM (ml n w N) (shf m (cf f))) _ (fun c hc => by rw [tr_vec h _ c hc]) ?_
  by_cases hd : dg m < (N : Int)
  · exact spn_in ⟨f, m, hf, mem_of hw k.1 k.2.1 hd, rfl⟩
  · exact sub_of_zero hS (vec_zero_deg hw (by omega) (hF f hf) ⟨k.1, k.2.1, by omega, by omega, by omega⟩ (by omega))
theorem tr_up (hw : wtOK w) (h : N ≤ D) {x : Vc} (hx : GenU p n w F N x) : ∃ y, GenU p n w F D y ∧ cg p (ml n w N).length x y := by
  have hD : Sub p (ml n w D).length (GenU p n w F D) := spn_sub
  have hS : Sub p (ml n w N).length (fun x => ∃ y, GenU p n w F D y ∧ cg p (ml n w N).length x y) := by
    refine ⟨⟨_, hD.1, cg.rf⟩, fun x x2 hx hx2 => ?_, fun a x hx => ?_, fun x x2 hc hx => ?_⟩
    · obtain ⟨y, hy, e⟩ := hx
      obtain ⟨y2, hy2, e2⟩ := hx2
      exact ⟨_, hD.2.1 _ _ hy hy2, fun c hc => by show (x c + x2 c) % p = (y c + y2 c) % p; rw [Int.add_emod, e c hc, e2 c hc, ← Int.add_emod]⟩
    · obtain ⟨y, hy, e⟩ := hx
      exact ⟨_, hD.2.2.1 a _ hy, fun c hc => by show (a * x c) % p = (a * y c) % p; rw [Int.mul_emod, e c hc, ← Int.mul_emod]⟩
    · obtain ⟨y, hy, e⟩ := hx
      exact ⟨y, hy, hc.sy.tr e⟩
  refine spn_le hS (fun t ht => ?_) hx
  obtain ⟨f, m, hf, hm, e⟩ := ht
  obtain ⟨M, e2⟩ := ml_pre (n := n) (w := w) h
  refine ⟨vecM (ml n w D) (shf m (cf f)), spn_in ⟨f, m, hf, by rw [e2]; exact List.mem_append_left _ hm, rfl⟩, fun c hc => ?_⟩
  rw [e, tr_vec h _ c hc]
theorem LdU.c {W : Nat} {U V : Vc → Prop} {c : Nat} (h : LdU p W U c) (huv : ∀ y, U y → V y) : LdU p W V c := by
  obtain ⟨hc, x, hx, h0, h1⟩ := h
  exact ⟨hc, x, huv x hx, h0, h1⟩
/-- leads below a smaller degree are the same -/
theorem tr_lead (hw : wtOK w) (h : N ≤ D) (hD : D ≤ 25) (hF : ∀ f, F f → okQ p n w f) {c : Nat} (hc : c < (ml n w N).length) : LdU p (ml n w N).length (GenU p n w F N) c ↔ LdU p (ml n w D).length (GenU p n w F D) c := by
  have hl := ml_le (n := n) (w := w) h
  constructor
  · intro ⟨_, x, hx, h0, h1⟩
    obtain ⟨y, hy, e⟩ := tr_up hw h hx
    refine ⟨by omega, y, hy, fun j hj => ?_, fun q => h1 ?_⟩
    · exact emz.mp (by rw [← e j (by omega)]; exact emz.mpr (h0 j hj))
    · exact emz.mp (by rw [e c hc]; exact emz.mpr q)
  · intro ⟨_, x, hx, h0, h1⟩
    exact ⟨hc, x, tr_down hw h hD hF hx, h0, h1⟩
/-- a lead's product with a variable is a lead -/
theorem lead_mul (hw : wtOK w) (hD : D ≤ 25) (hn : 1 ≤ n ∧ n ≤ 3) (hF : ∀ f, F f → okQ p n w f) {v c c2 : Nat} (hv : (v : Int) < n) (h : LdU p (ml n w D).length (GenU p n w F D) c) (hc2 : c2 < (ml n w D).length) (e : (ml n w D).getD c2 0 = (ml n w D).getD c 0 + vkey w (v : Int) - 262143) : LdU p (ml n w D).length (GenU p n w F D) c2 := by
  obtain ⟨hc, x, hx, h0, h1⟩ := h
  have hi : Inc (ml n w D) := ml_inc (by omega)
  refine ⟨hc2, _, gen_mul hw hD hn hv hF hx, fun j hj => ?_, fun q => h1 ?_⟩
  · unfold mulv ext
    by_cases z : (ml n w D).getD j 0 - vkey w (v : Int) + 262143 ∈ ml n w D
    · rw [if_pos z]
      refine h0 _ (inc_lt hi (List.idxOf_lt_length_of_mem z) hc ?_)
      rw [idx_at z]
      have := inc_nd hi (by omega) hc2 hj
      omega
    · rw [if_neg z]; exact Int.dvd_zero _
  · unfold mulv at q
    rw [show (ml n w D).getD c2 0 - vkey w (v : Int) + 262143 = (ml n w D).getD c 0 by omega, ext_at hi hc] at q
    exact q
end TRU

