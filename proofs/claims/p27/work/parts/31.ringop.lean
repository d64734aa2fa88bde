/-! ===== X6: the lists of monomials are laid ===== -/
theorem zl_len {w : Nat → Int} {a b c : Nat} (h0 : w 0 = a) (h1 : w 1 = b) (h2 : w 2 = c) (d x y : Nat) : ∀ k, (zl w d x y k).length = cz a b c d x y k
  | 0 => rfl
  | k + 1 => by
    rw [zl, cz, List.length_append, zl_len h0 h1 h2 d x y k, h0, h1, h2]
    congr 1
    have e : ((x : Int) * (a : Int) + (y : Int) * (b : Int) + (k : Int) * (c : Int) = (d : Int)) ↔ (x * a + y * b + k * c = d) := by
      rw [← Int.natCast_mul, ← Int.natCast_mul, ← Int.natCast_mul]
      omega
    by_cases hc : x * a + y * b + k * c = d
    · rw [if_pos hc, if_pos (e.mpr hc)]; rfl
    · rw [if_neg hc, if_neg (fun q => hc (e.mp q))]; rfl
theorem yl_len {w : Nat → Int} {a b c : Nat} (h0 : w 0 = a) (h1 : w 1 = b) (h2 : w 2 = c) (d x zb : Nat) : ∀ k, (yl w d x zb k).length = cy a b c d x zb k
  | 0 => rfl
  | k + 1 => by rw [yl, cy, List.length_append, yl_len h0 h1 h2 d x zb k, zl_len h0 h1 h2]
theorem xl_len {w : Nat → Int} {a b c : Nat} (h0 : w 0 = a) (h1 : w 1 = b) (h2 : w 2 = c) (d yb zb : Nat) : ∀ k, (xl w d yb zb k).length = cx a b c d yb zb k
  | 0 => rfl
  | k + 1 => by rw [xl, cx, List.length_append, xl_len h0 h1 h2 d yb zb k, yl_len h0 h1 h2]
theorem ml_len {w : Nat → Int} {a b c m : Nat} (h0 : w 0 = a) (h1 : w 1 = b) (h2 : w 2 = c) : ∀ D, (ml (m : Int) w D).length = cD m a b c D
  | 0 => rfl
  | D + 1 => by
    rw [ml, cD, List.length_append, ml_len h0 h1 h2 D]
    congr 1
    unfold mdeg
    rw [xl_len h0 h1 h2, show nyb (m : Int) D = if 1 < m then D else 0 by unfold nyb; by_cases h : 1 < m <;> simp [h] <;> omega, show nzb (m : Int) D = if 2 < m then D else 0 by unfold nzb; by_cases h : 2 < m <;> simp [h] <;> omega]
theorem ml_bd {n : Int} {w : Nat → Int} (hn : 1 ≤ n ∧ n ≤ 3) (hw : wtOK w) : (ml n w (bd n).toNat).length ≤ 120 ∧ (ml n w ((bd n).toNat + 1)).length ≤ 165 := by
  have w0 := hw 0 (by omega)
  have w1 := hw 1 (by omega)
  have w2 := hw 2 (by omega)
  obtain ⟨m, rfl⟩ : ∃ m : Nat, n = ((m + 1 : Nat) : Int) := ⟨(n - 1).toNat, by omega⟩
  obtain ⟨a, ha⟩ : ∃ a : Nat, w 0 = ((a + 1 : Nat) : Int) := ⟨(w 0 - 1).toNat, by omega⟩
  obtain ⟨b, hb⟩ : ∃ a : Nat, w 1 = ((a + 1 : Nat) : Int) := ⟨(w 1 - 1).toNat, by omega⟩
  obtain ⟨c, hc⟩ : ∃ a : Nat, w 2 = ((a + 1 : Nat) : Int) := ⟨(w 2 - 1).toNat, by omega⟩
  rw [ml_len ha hb hc, ml_len ha hb hc]
  have h := cnt_ok
  unfold cntOK at h
  have h3 := List.all_eq_true.mp (List.all_eq_true.mp (List.all_eq_true.mp (List.all_eq_true.mp h m (List.mem_range.mpr (by omega))) a (List.mem_range.mpr (by omega))) b (List.mem_range.mpr (by omega))) c (List.mem_range.mpr (by omega))
  rw [Bool.and_eq_true, decide_eq_true_eq, decide_eq_true_eq] at h3
  have e : (bd ((m + 1 : Nat) : Int)).toNat = if m = 0 then 24 else if m = 1 then 12 else 8 := by
    unfold bd
    have : m = 0 ∨ m = 1 ∨ m = 2 := by omega
    rcases this with rfl | rfl | rfl <;> rfl
  rw [e]
  exact h3
/-- the list so far -/
def HasM (I : MI) (r : Nat) (L : List Int) : Prop := I r 6 = (L.length : Int) ∧ ∀ i m, L[i]? = some m → I (r + 3) i = m
/-- but for the list and its length all stays -/
def offM (I I' : MI) (r : Nat) : Prop := (∀ b, b ≠ r → b ≠ r + 3 → I' b = I b) ∧ ∀ j, j ≠ 6 → I' r j = I r j
theorem offM.rf {I : MI} {r : Nat} : offM I I r := ⟨fun _ _ _ => rfl, fun _ _ => rfl⟩
theorem offM.tr {I I1 I2 : MI} {r : Nat} (h : offM I I1 r) (h2 : offM I1 I2 r) : offM I I2 r := ⟨fun b x y => (h2.1 b x y).trans (h.1 b x y), fun j x => (h2.2 j x).trans (h.2 j x)⟩
theorem offM.v {I I' : MI} {r : Nat} {n : Int} {w : Nat → Int} (h : offM I I' r) (hv : RingV I r n w) : RingV I' r n w :=
  ⟨by rw [h.2 0 (by omega)]; exact hv.1, hv.2.1, fun i hi => by rw [h.1 (r + 2) (by omega) (by omega)]; exact hv.2.2.1 i hi, hv.2.2.2⟩
section R62
variable {G : Gl} {S : Sh} {R : MR} {r : Nat} {n : Int} {w : Nat → Int} {Q : Sh → MI → MR → Prop}
theorem lz {d x y : Nat} (h : RingL S R r) (hd : d ≤ 24) (hx : x ≤ 24) (hy : y ≤ 24) : ∀ (k : Nat) (I : MI) (L : List Int), k ≤ 25 → RingV I r n w → HasM I r L → (L ++ zl w d x y k).length ≤ 165 →
    (∀ I', offM I I' r → HasM I' r (L ++ zl w d x y k) → LX6_listDegree_20 G r (d : Int) (x : Int) ((y : Int) - 1) S I' R Q) → LX6_listDegree_39 G r (d : Int) (x : Int) (y : Int) ((k : Int) - 1) S I R Q := by
  intro k
  induction k with
  | zero =>
    intro I L hk hv hL hlen hq
    refine bX6_listDegree_39 (br_t (by omega) ?_)
    rw [w32_id (by omega), show (y : Int) + -1 = (y : Int) - 1 by omega]
    exact hq I offM.rf (by rw [zl, List.append_nil]; exact hL)
  | succ k ih =>
    intro I L hk hv hL hlen hq
    have hz : (0 : Int) ≤ (k : Int) ∧ (k : Int) < 64 := by omega
    have hkd := key_d hv.2.2.2 (x := x) (y := y) (z := k) (by omega) (by omega) hz
    have hkey : key w x y k = (x * w 0 + y * w 1 + k * w 2) * 262144 + 262143 - (4096 * x + 64 * y + k) := key_at rfl
    have hinr : InR (key w x y k) := by rw [hkey]; unfold InR; omega
    refine bX6_listDegree_39 (br_f (by omega) ⟨h.1, p6mono h, ?_⟩)
    rw [show ((k + 1 : Nat) : Int) - 1 = (k : Int) by omega, v6mono h hv (by omega) (by omega) hz, vdeg hinr, show dg (key w x y k) = x * w 0 + y * w 1 + k * w 2 by unfold key; rw [dg_pk (by omega) (by omega) hz], w32_id (x := (k : Int) + -1) (by omega), show (k : Int) + -1 = (k : Int) - 1 by omega]
    refine ⟨fun c => ?_, fun c => ?_⟩
    · have e : zl w d x y (k + 1) = zl w d x y k := by rw [zl, if_neg c]; rfl
      rw [e] at hlen hq
      exact ih I L (by omega) hv hL hlen hq
    · have c' := Decidable.not_not.mp c
      have e : L ++ zl w d x y (k + 1) = (L ++ [key w x y k]) ++ zl w d x y k := by rw [zl, if_pos c', List.append_assoc]
      rw [e] at hlen hq
      have hll : L.length < 165 := by simp only [List.length_append, List.length_singleton] at hlen; omega
      rw [hL.1]
      refine br_f (by omega) ?_
      rw [h.2.1.2.1, h.2.2.1.2.1, h.2.2.2.1.2.1]
      refine ⟨rfl, ⟨by omega, by omega⟩, ?_⟩
      intro I83 e83 I91 e91
      rw [show Int.toNat (L.length : Int) = L.length by omega] at e83
      rw [u_n e83 (by omega), hL.1, add1 (by omega)] at e91
      have ho : offM I I91 r := ⟨fun b h1 h2 => by rw [u_n e91 h1, u_n e83 h2], fun j hj => by rw [u_o e91 hj, u_n e83 (by omega)]⟩
      refine ih I91 (L ++ [key w x y k]) (by omega) (ho.v hv) ⟨?_, fun i m hm => ?_⟩ hlen (fun I' h1 h2 => hq I' (ho.tr h1) h2)
      · rw [u_s e91, List.length_append]; rfl
      · rw [u_n e91 (by omega)]
        by_cases hi2 : i < L.length
        · rw [List.getElem?_append_left hi2] at hm
          rw [u_o e83 (by omega)]
          exact hL.2 i m hm
        · rw [List.getElem?_append_right (by omega)] at hm
          have h3 : i - L.length < 1 := (List.getElem?_eq_some_iff.mp hm).1
          have h4 : i = L.length := by omega
          subst h4
          rw [Nat.sub_self] at hm
          cases Option.some.inj hm
          exact u_s e83
theorem ly {d x : Nat} (h : RingL S R r) (hd : d ≤ 24) (hx : x ≤ 24) : ∀ (k : Nat) (I : MI) (L : List Int), k ≤ 25 → RingV I r n w → HasM I r L → (L ++ yl w d x (nzb n d) k).length ≤ 165 →
    (∀ I', offM I I' r → HasM I' r (L ++ yl w d x (nzb n d) k) → LX6_listDegree_2 G r (d : Int) ((x : Int) - 1) S I' R Q) → LX6_listDegree_20 G r (d : Int) (x : Int) ((k : Int) - 1) S I R Q := by
  intro k
  induction k with
  | zero =>
    intro I L hk hv hL hlen hq
    refine bX6_listDegree_20 (br_t (by omega) ?_)
    rw [w32_id (by omega), show (x : Int) + -1 = (x : Int) - 1 by omega]
    exact hq I offM.rf (by rw [yl, List.append_nil]; exact hL)
  | succ k ih =>
    intro I L hk hv hL hlen hq
    have hnb := nb_le n d
    rw [yl, ← List.append_assoc] at hlen
    have main : LX6_listDegree_39 G r (d : Int) (x : Int) (k : Int) (((nzb n d + 1 : Nat) : Int) - 1) S I R Q := by
      refine lz h hd hx (by omega) (nzb n d + 1) I L (by omega) hv hL (by rw [List.length_append] at hlen; omega) (fun I' ho hh => ?_)
      exact ih I' _ (by omega) (ho.v hv) hh hlen (fun I2 ho2 hh2 => hq I2 (ho.tr ho2) (by rw [yl, ← List.append_assoc]; exact hh2))
    refine bX6_listDegree_20 (br_f (by omega) ⟨h.1, ?_⟩)
    rw [hv.1, show ((k + 1 : Nat) : Int) - 1 = (k : Int) by omega]
    refine ⟨fun c => ?_, fun c => ?_⟩
    · rw [show nzb n d = 0 from if_neg (by omega)] at main
      exact main
    · rw [show nzb n d = d from if_pos (by omega), show ((d + 1 : Nat) : Int) - 1 = (d : Int) by omega] at main
      exact main
theorem lx {d : Nat} (h : RingL S R r) (hd : d ≤ 24) : ∀ (k : Nat) (I : MI) (L : List Int), k ≤ 25 → RingV I r n w → HasM I r L → (L ++ xl w d (nyb n d) (nzb n d) k).length ≤ 165 →
    (∀ I', offM I I' r → HasM I' r (L ++ xl w d (nyb n d) (nzb n d) k) → Q S I' R) → LX6_listDegree_2 G r (d : Int) ((k : Int) - 1) S I R Q := by
  intro k
  induction k with
  | zero =>
    intro I L hk hv hL hlen hq
    refine bX6_listDegree_2 (br_t (by omega) ?_)
    exact hq I offM.rf (by rw [xl, List.append_nil]; exact hL)
  | succ k ih =>
    intro I L hk hv hL hlen hq
    have hnb := nb_le n d
    rw [xl, ← List.append_assoc] at hlen
    have main : LX6_listDegree_20 G r (d : Int) (k : Int) (((nyb n d + 1 : Nat) : Int) - 1) S I R Q := by
      refine ly h hd (by omega) (nyb n d + 1) I L (by omega) hv hL (by rw [List.length_append] at hlen; omega) (fun I' ho hh => ?_)
      exact ih I' _ (by omega) (ho.v hv) hh hlen (fun I2 ho2 hh2 => hq I2 (ho.tr ho2) (by rw [xl, ← List.append_assoc]; exact hh2))
    refine bX6_listDegree_2 (br_f (by omega) ⟨h.1, ?_⟩)
    rw [hv.1, show ((k + 1 : Nat) : Int) - 1 = (k : Int) by omega]
    refine ⟨fun c => ?_, fun c => ?_⟩
    · rw [show nyb n d = 0 from if_neg (by omega)] at main
      exact main
    · rw [show nyb n d = d from if_pos (by omega), show ((d + 1 : Nat) : Int) - 1 = (d : Int) by omega] at main
      exact main
theorem listDegree_spec {d : Nat} {I : MI} {L : List Int} (h : RingL S R r) (hd : d ≤ 24) (hv : RingV I r n w) (hL : HasM I r L) (hlen : (L ++ mdeg n w d).length ≤ 165) (hq : ∀ I', offM I I' r → HasM I' r (L ++ mdeg n w d) → Q S I' R) : CV G MX6_listDegree [vR r, vI (d : Int)] S I R Q := by
  refine bX6_listDegree ?_
  have := lx h hd (d + 1) I L (by omega) hv hL hlen hq (G := G)
  rw [show ((d + 1 : Nat) : Int) - 1 = (d : Int) by omega] at this
  exact this
/-- where a monomial stands in the list; -1 -/
def colP (M : List Int) (m c : Int) : Prop := (c = -1 ∧ m ∉ M) ∨ ∃ i : Nat, M[i]? = some m ∧ c = (i : Int)
theorem column_spec {I : MI} {M T : List Int} {m : Int} {Q : Sh → MI → MR → Int → Prop} (h : RingL S R r) (hv : RingV I r n w) (hw : I (r + 4) (bd n).toNat = (M.length : Int)) (hM : ∀ i m, M[i]? = some m → I (r + 3) i = m) (hl : M.length ≤ 120) (hinc : Inc M)
    (hq : ∀ c, colP M m c → Q S I R c) : CI G MX6_column [vR r, vI m] S I R Q := by
  have vw : vX6_width I R r = (M.length : Int) := (v6width h hv).trans hw
  have pwd := p6width h hv
  have hget : ∀ {i j : Nat} (hi : i < M.length) (hj : j < M.length), i < j → M[i] < M[j] := fun {i j} hi hj hij => by
    have := List.pairwise_iff_getElem.mp hinc i j hi hj hij
    exact this
  have loop : ∀ (k lo hi : Nat), hi - lo = k → lo ≤ hi → hi ≤ M.length → (∀ i (h : i < M.length), i < lo → M[i] < m) → (∀ i (h : i < M.length), hi ≤ i → m ≤ M[i]) → LX6_column_12 G r m (lo : Int) (hi : Int) S I R Q := by
    intro k
    induction k using Nat.strongRecOn with
    | _ k ih =>
      intro lo hi hk h1 h2 hlo hhi
      refine bX6_column_12 ⟨fun c => ⟨h.1, pwd, ?_⟩, fun c => ⟨h.1, ?_⟩⟩
      · rw [vw, h.2.1.2.1, h.2.2.1.2.1, h.2.2.2.1.2.1]
        have hle : lo = hi := by omega
        refine ⟨fun c2 => hq _ (Or.inl ⟨rfl, fun hmem => ?_⟩), fun c2 => ⟨rfl, ⟨by omega, by omega⟩, ?_⟩⟩
        · obtain ⟨i, hi', e⟩ := List.mem_iff_getElem.mp hmem
          have := hlo i hi' (by omega)
          omega
        · have hlt : lo < M.length := by omega
          rw [show Int.toNat (lo : Int) = lo by omega, hM lo _ (List.getElem?_eq_getElem hlt)]
          refine ⟨fun c3 => hq _ (Or.inl ⟨rfl, fun hmem => ?_⟩), fun c3 => hq _ (Or.inr ⟨lo, ?_, rfl⟩)⟩
          · obtain ⟨i, hi', e⟩ := List.mem_iff_getElem.mp hmem
            rcases Nat.lt_trichotomy i lo with hh | hh | hh
            · have := hlo i hi' hh; omega
            · subst hh; exact c3 e
            · have g1 := hget hlt hi' hh
              have g2 := hhi lo hlt (by omega)
              omega
          · rw [List.getElem?_eq_getElem hlt, Decidable.not_not.mp c3]
      · have hmid : iushr (w32 ((lo : Int) + (hi : Int))) 1 = (((lo + hi) / 2 : Nat) : Int) := by
          rw [w32_id (by omega), iushr_eq (by omega) (by omega) (by decide) (by decide)]
          show ((lo : Int) + (hi : Int)) / 2 = _
          omega
        have hmlt : (lo + hi) / 2 < M.length := by omega
        rw [hmid, h.2.1.2.1, h.2.2.1.2.1, h.2.2.2.1.2.1, show Int.toNat (((lo + hi) / 2 : Nat) : Int) = (lo + hi) / 2 by omega, hM _ _ (List.getElem?_eq_getElem hmlt), add1 (by omega)]
        refine ⟨rfl, ⟨by omega, by omega⟩, fun c2 => ?_, fun c2 => ?_⟩
        · refine ih ((lo + hi) / 2 - lo) (by omega) lo ((lo + hi) / 2) rfl (by omega) (by omega) hlo (fun i hi' hle => ?_)
          rcases Nat.lt_or_ge ((lo + hi) / 2) i with hh | hh
          · have := hget hmlt hi' hh; omega
          · have : i = (lo + hi) / 2 := by omega
            subst this; exact c2
        · refine ih (hi - ((lo + hi) / 2 + 1)) (by omega) ((lo + hi) / 2 + 1) hi rfl (by omega) h2 (fun i hi' hlt => ?_) hhi
          rcases Nat.lt_or_ge i ((lo + hi) / 2) with hh | hh
          · have := hget hi' hmlt hh; omega
          · have : i = (lo + hi) / 2 := by omega
            subst this; omega
  refine bX6_column ⟨h.1, pwd, ?_⟩
  rw [vw, show min (M.length : Int) 120 = (M.length : Int) by omega]
  exact loop M.length 0 M.length (by omega) (by omega) (Nat.le_refl _) (fun i _ h => by omega) (fun i h h2 => by omega)
end R62

