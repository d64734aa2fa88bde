/-! ===== X2: lines ===== -/
def IdS (S : Sh) (R : MR) (i : Nat) : Prop := sT S i = 3 ∧ (R i 1 = i + 1 ∧ R i 2 = i + 122 ∧ R i 3 = i + 123) ∧ (sT S (i + 1) = 27 ∧ sL S (i + 1) = 120) ∧ (∀ c, c < 120 → R (i + 1) c = i + 2 + c ∧ sT S (i + 2 + c) = 21 ∧ sL S (i + 2 + c) = 120) ∧ (sT S (i + 122) = 21 ∧ sL S (i + 122) = 120) ∧ sT S (i + 123) = 21 ∧ sL S (i + 123) = 120
theorem cf_take {f : List Tm} (hs : Srt f) {j : Nat} (hj : j < f.length) (k : Int) : cf (f.take (j + 1)) k = if k = f[j].1 then f[j].2 else cf (f.take j) k := by
  rw [take_succ_get hj, cf_app]
  have e : cf [f[j]] k = (if f[j].1 = k then f[j].2 else 0) + 0 := rfl
  rw [e]
  by_cases h : k = f[j].1
  · have h0 : cf (f.take j) k = 0 := cf_none (fun t ht q => by
      obtain ⟨i, hi, e⟩ := List.mem_iff_getElem.mp ht
      rw [List.length_take] at hi
      rw [List.getElem_take] at e
      have := List.pairwise_iff_getElem.mp hs i j (by omega) hj (by omega)
      rw [e, q, h] at this
      omega)
    rw [if_pos h, if_pos h.symm, h0]; omega
  · rw [if_neg h, if_neg (fun q => h q.symm)]; omega
section R2
variable {G : Gl} {S : Sh} {R : MR} {i r a cap nu : Nat} {p n : Int} {w : Nat → Int} {f : List Tm} {Q : Sh → MI → MR → Prop}
/-- a ring apart from cells -/
def apR (r lo hi : Nat) : Prop := r + 8 < lo ∨ hi < r
theorem load_spec {I : MI} (h : IdS S R i) (hp : PolyS S R a cap) (hf : Has I a f) (hcap : f.length ≤ cap) (hc : cap ≤ 100000) (ha : a + 2 < i ∨ i + 123 < a) (hr : RingL S R r) (hrt : RingT I r n w) (hra : apR r i (i + 123)) (ok : okQ p n w f)
    (hq : ∀ I', off1 I I' (i + 123) → (∀ c, c < 120 → I' (i + 123) c = if c < (mB n w).length then vecM (mB n w) (cf f) c else 0) → Q S I' R) : CV G MX2_load [vR i, vR a, vR r] S I R Q := by
  have hl := (ml_bd hrt.1.2.1 hrt.1.2.2.2).1
  have hb := bd_r n
  have hinc : Inc (mB n w) := ml_inc (by omega)
  unfold apR at hra
  have loop : ∀ (k j : Nat) (I1 : MI), f.length - j = k → j ≤ f.length → off1 I I1 (i + 123) → (∀ c, c < 120 → I1 (i + 123) c = if c < (mB n w).length then vecM (mB n w) (cf (f.take j)) c else 0) → LX2_load_10 G i a r (j : Int) S I1 R Q := by
    intro k
    induction k with
    | zero =>
      intro j I1 hk hj ho hx
      refine bX2_load_10 ⟨hp.1, ?_⟩
      rw [ho a (by omega), hf.1]
      refine br_t (by omega) (hq I1 ho ?_)
      rw [List.take_of_length_le (by omega)] at hx
      exact hx
    | succ k ih =>
      intro j I1 hk hj ho hx
      have hjf : j < f.length := by omega
      have hat := hf.at hjf
      have hrt1 : RingT I1 r n w := hrt.o (ho r (by omega)) (fun b h1 h2 => ho b (by omega))
      refine bX2_load_10 ⟨hp.1, ?_⟩
      rw [ho a (by omega), hf.1]
      refine br_f (by omega) ?_
      rw [hp.2.1, hp.2.2.2.1, hp.2.2.2.2.2.1, show Int.toNat (j : Int) = j by omega, ho (a + 1) (by omega), hat.1]
      refine ⟨rfl, ⟨by omega, by omega⟩, hr.1, column_spec (T := []) hr hrt1.1 (hrt1.2.1.2 _ (by omega)) (fun c m => hrt1.2.1.p) hl hinc (fun x hx2 => ?_)⟩
      rw [add1 (by have := ok.2.2; omega)]
      have ct := cf_take ok.1.1 hjf
      rcases hx2 with ⟨e, hnm⟩ | ⟨c0, hc0, e⟩
      · refine br_t (by omega) (ih (j + 1) I1 (by omega) (by omega) ho (fun c hc2 => ?_))
        rw [hx c hc2]
        by_cases hcw : c < (mB n w).length
        · rw [if_pos hcw, if_pos hcw]
          unfold vecM
          rw [ct, if_neg (fun q => hnm (by rw [← q]; exact getDl_mem hcw))]
        · rw [if_neg hcw, if_neg hcw]
      · have hc0l : c0 < (mB n w).length := (List.getElem?_eq_some_iff.mp hc0).1
        have hc0e : (mB n w).getD c0 0 = f[j].1 := by rw [List.getD_eq_getElem?_getD, hc0]; rfl
        have hl' : (mB n w).length ≤ 120 := hl
        rw [e]
        refine br_f (by omega) (br_f (by omega) ?_)
        rw [hp.2.2.1, hp.2.2.2.2.1, hp.2.2.2.2.2.2, h.2.1.2.2, h.2.2.2.2.2.1, h.2.2.2.2.2.2, show Int.toNat (c0 : Int) = c0 by omega, ho (a + 2) (by omega), hat.2]
        refine ⟨h.1, hp.1, rfl, ⟨by omega, by omega⟩, rfl, ⟨by omega, by omega⟩, fun I54 e54 => ih (j + 1) I54 (by omega) (by omega) (fun b hb2 => by rw [u_n e54 hb2]; exact ho b hb2) (fun c hc2 => ?_)⟩
        by_cases hcc : c = c0
        · subst hcc
          rw [u_s e54, if_pos hc0l]
          unfold vecM
          rw [ct, if_pos hc0e]
        · rw [u_o e54 hcc, hx c hc2]
          by_cases hcw : c < (mB n w).length
          · rw [if_pos hcw, if_pos hcw]
            unfold vecM
            rw [ct, if_neg (fun q => hcc (inc_eq hinc hcw hc0l (q.trans hc0e.symm)))]
          · rw [if_neg hcw, if_neg hcw]
  refine bX2_load ⟨h.1, ?_⟩
  rw [h.2.1.2.2]
  refine fill_spec h.2.2.2.2.2.1 h.2.2.2.2.2.2 (by omega) (fun I5 o5 h5 => loop f.length 0 I5 (by omega) (by omega) o5 (fun c hc2 => ?_))
  rw [h5 c hc2]
  by_cases hcw : c < (mB n w).length
  · rw [if_pos hcw]; rfl
  · rw [if_neg hcw]
end R2

