/-! ===== X8: what is shown ===== -/
def Arr (I : MI) (c : Nat) (L : List Int) : Prop := ∀ i x, L[i]? = some x → I c i = x
theorem Arr.nil {I : MI} {c : Nat} : Arr I c [] := fun i x h => by cases h
theorem Arr.snoc {I I' : MI} {c : Nat} {L : List Int} {x : Int} (h : Arr I c L) (hx : I' c L.length = x) (ho : ∀ j, j < L.length → I' c j = I c j) : Arr I' c (L ++ [x]) := by
  intro i y hy
  by_cases hi : i < L.length
  · rw [List.getElem?_append_left hi] at hy
    rw [ho i hi]; exact h i y hy
  · rw [List.getElem?_append_right (by omega)] at hy
    have h3 : i - L.length < 1 := (List.getElem?_eq_some_iff.mp hy).1
    have h4 : i = L.length := by omega
    subst h4
    rw [Nat.sub_self] at hy
    cases Option.some.inj hy
    exact hx
theorem Arr.cg {I I' : MI} {c : Nat} {L : List Int} (h : Arr I c L) (ho : I' c = I c) : Arr I' c L := fun i x hx => by rw [ho]; exact h i x hx
theorem Arr.get {I : MI} {c : Nat} {L : List Int} (h : Arr I c L) {i : Nat} (hi : i < L.length) : I c i = L[i] := h i _ (List.getElem?_eq_getElem hi)
def decA (v s : Int) : List Int := if v < s then [] else [48 + v / s % 10]
/-- a number in digits -/
def dec (v : Int) : List Int := decA v 10000 ++ (decA v 1000 ++ (decA v 100 ++ (decA v 10 ++ decA v 1)))
def powL (v e : Int) : List Int := if e ≤ 0 then [] else (120 + v) :: (if e ≤ 1 then [] else 94 :: dec e)
def trmL (t : Tm) : List Int := (if t.2 = 1 ∧ t.1 ≠ 262143 then [] else dec t.2) ++ (powL 0 (exx t.1) ++ (powL 1 (exy t.1) ++ powL 2 (exz t.1)))
def shwR (i : Nat) : List Tm → List Int
  | [] => []
  | t :: L => (if i = 0 then [] else [43]) ++ (trmL t ++ shwR (i + 1) L)
/-- what is shown of a polynomial -/
def shwL (L : List Tm) : List Int := if L = [] then [48] else shwR 0 L
theorem decA_len (v s : Int) : (decA v s).length ≤ 1 := by unfold decA; by_cases h : v < s <;> simp [h]
theorem decA_none {v s : Int} (h : v < s) : decA v s = [] := if_pos h
theorem dec_len (v : Int) : (dec v).length ≤ 5 := by
  unfold dec
  simp only [List.length_append]
  have := decA_len v 10000; have := decA_len v 1000; have := decA_len v 100; have := decA_len v 10; have := decA_len v 1
  omega
theorem dec_len2 {v : Int} (h : v < 100) : (dec v).length ≤ 2 := by
  unfold dec
  rw [decA_none (s := 10000) (by omega), decA_none (s := 1000) (by omega), decA_none (s := 100) (by omega)]
  simp only [List.length_append, List.length_nil]
  have := decA_len v 10; have := decA_len v 1
  omega
theorem powL_len {v e : Int} (h : e < 100) : (powL v e).length ≤ 4 := by
  unfold powL
  by_cases h1 : e ≤ 0
  · rw [if_pos h1]; exact Nat.zero_le _
  · rw [if_neg h1]
    by_cases h2 : e ≤ 1
    · rw [if_pos h2]; exact Nat.le_of_ble_eq_true rfl
    · rw [if_neg h2]
      have := dec_len2 h
      simp only [List.length_cons]
      omega
theorem trmL_len (t : Tm) : (trmL t).length ≤ 17 := by
  have r := ex_r t.1
  unfold trmL
  simp only [List.length_append]
  have h1 := powL_len (v := 0) (e := exx t.1) (by omega)
  have h2 := powL_len (v := 1) (e := exy t.1) (by omega)
  have h3 := powL_len (v := 2) (e := exz t.1) (by omega)
  by_cases c : t.2 = 1 ∧ t.1 ≠ 262143
  · rw [if_pos c]; simp only [List.length_nil]; omega
  · rw [if_neg c]; have := dec_len t.2; omega
theorem shwR_len : ∀ (L : List Tm) (i : Nat), (shwR i L).length ≤ 18 * L.length
  | [], _ => Nat.zero_le _
  | t :: L, i => by
    have h1 := shwR_len L (i + 1)
    have h2 := trmL_len t
    rw [shwR]
    simp only [List.length_append, List.length_cons]
    have h3 : (if i = 0 then ([] : List Int) else [43]).length ≤ 1 := by by_cases h : i = 0 <;> simp [h]
    omega
def TxtS (S : Sh) (R : MR) (t : Nat) : Prop := sT S t = 8 ∧ R t 0 = t + 1 ∧ sT S (t + 1) = 21 ∧ sL S (t + 1) = 1080
def HasT (I : MI) (t : Nat) (L : List Int) : Prop := I t 1 = (L.length : Int) ∧ Arr I (t + 1) L
def offT (I I' : MI) (t : Nat) : Prop := ∀ b, b ≠ t → b ≠ t + 1 → I' b = I b
theorem offT.rf {I : MI} {t : Nat} : offT I I t := fun _ _ _ => rfl
theorem offT.tr {I I1 I2 : MI} {t : Nat} (h : offT I I1 t) (h2 : offT I1 I2 t) : offT I I2 t := fun b x y => (h2 b x y).trans (h b x y)
section R8
variable {G : Gl} {S : Sh} {R : MR} {t : Nat} {Q : Sh → MI → MR → Prop}
theorem put_spec {I : MI} {L : List Int} {c : Int} (h : TxtS S R t) (hL : HasT I t L) (hl : L.length < 1080) (hq : ∀ I', offT I I' t → HasT I' t (L ++ [c]) → Q S I' R) : CV G MX8_put [vR t, vI c] S I R Q := by
  refine bX8_put ?_
  rw [h.2.1, h.2.2.1, h.2.2.2, hL.1]
  refine ⟨h.1, by decide, br_f (by omega) ⟨rfl, ⟨by omega, by omega⟩, fun I21 e21 I29 e29 => ?_⟩⟩
  rw [show Int.toNat (L.length : Int) = L.length by omega] at e21
  rw [u_n e21 (by omega), hL.1, add1 (by omega)] at e29
  refine hq I29 (fun b h1 h2 => by rw [u_n e29 h1, u_n e21 h2]) ⟨?_, hL.2.snoc ?_ (fun j hj => ?_)⟩
  · rw [u_s e29, List.length_append]; rfl
  · rw [u_n e29 (by omega), u_s e21]
  · rw [u_n e29 (by omega), u_o e21 (by omega)]
theorem pn_step {I : MI} {L : List Int} {v s s2 : Int} (h : TxtS S R t) (hL : HasT I t L) (hl : (L ++ decA v s).length ≤ 1080) (hv : 0 ≤ v ∧ v < 2147483648) (hs : 0 < s ∧ s < 2147483648) (hs2 : s / 10 = s2) (hq : ∀ I', offT I I' t → HasT I' t (L ++ decA v s) → LX8_putNumber_4 G t v s2 S I' R Q) : LX8_putNumber_4 G t v s S I R Q := by
  refine bX8_putNumber_4 (br_f (by omega) ?_)
  rw [idiv_eq (by omega) hs.2 (by decide) (by decide), hs2]
  refine ⟨fun c => ?_, fun c => ⟨by omega, h.1, ?_⟩⟩
  · have e : decA v s = [] := if_pos c
    exact hq I offT.rf (by rw [e, List.append_nil]; exact hL)
  · have e : decA v s = [48 + v / s % 10] := if_neg c
    have h0 : 0 ≤ v / s := Int.ediv_nonneg (by omega) (by omega)
    have h1 : v / s ≤ v := Int.ediv_le_self _ (by omega)
    rw [idiv_eq hv.1 hv.2 hs.1 hs.2, irem_eq h0 (by omega) (by decide) (by decide), w32_id (by omega)]
    rw [e] at hl hq
    refine put_spec h hL (by simp only [List.length_append, List.length_singleton] at hl; omega) (fun I' h1 h2 => hq I' h1 h2)
theorem putNumber_spec {I : MI} {L : List Int} {v : Int} (h : TxtS S R t) (hL : HasT I t L) (hl : (L ++ dec v).length ≤ 1080) (hv : 0 ≤ v ∧ v < 2147483648) (hq : ∀ I', offT I I' t → HasT I' t (L ++ dec v) → Q S I' R) : CV G MX8_putNumber [vR t, vI v] S I R Q := by
  unfold dec at hl hq
  have len : ∀ {A B C : List Int}, (A ++ (B ++ C)).length ≤ 1080 → (A ++ B).length ≤ 1080 ∧ ((A ++ B) ++ C).length ≤ 1080 := by
    intro A B C hh
    simp only [List.length_append] at hh ⊢
    omega
  refine bX8_putNumber (pn_step h hL (len hl).1 hv (by omega) (s2 := 1000) (by decide) (fun I1 o1 h1 => ?_))
  refine pn_step h h1 (len (len hl).2).1 hv (by omega) (s2 := 100) (by decide) (fun I2 o2 h2 => ?_)
  refine pn_step h h2 (len (len (len hl).2).2).1 hv (by omega) (s2 := 10) (by decide) (fun I3 o3 h3 => ?_)
  refine pn_step h h3 (len (len (len (len hl).2).2).2).1 hv (by omega) (s2 := 1) (by decide) (fun I4 o4 h4 => ?_)
  refine pn_step h h4 (len (len (len (len hl).2).2).2).2 hv (by omega) (s2 := 0) (by decide) (fun I5 o5 h5 => ?_)
  refine bX8_putNumber_4 (br_t (by omega) (hq I5 (o1.tr (o2.tr (o3.tr (o4.tr o5)))) ?_))
  rw [List.append_assoc, List.append_assoc, List.append_assoc, List.append_assoc] at h5
  exact h5
theorem putPower_spec {I : MI} {L : List Int} {v e : Int} (h : TxtS S R t) (hL : HasT I t L) (hl : (L ++ powL v e).length ≤ 1080) (hv : 0 ≤ v ∧ v < 100) (he : 0 ≤ e ∧ e < 100) (hq : ∀ I', offT I I' t → HasT I' t (L ++ powL v e) → Q S I' R) : CV G MX8_putPower [vR t, vI v, vI e] S I R Q := by
  refine bX8_putPower ⟨fun c => ?_, fun c => ⟨h.1, ?_⟩⟩
  · have e0 : powL v e = [] := if_pos c
    refine bX8_putPower_12 (br_t (by omega) (hq I offT.rf ?_))
    rw [e0, List.append_nil]; exact hL
  · have e0 : powL v e = (120 + v) :: (if e ≤ 1 then [] else 94 :: dec e) := if_neg c
    rw [e0] at hl hq
    rw [w32_id (by omega)]
    refine put_spec h hL (by simp only [List.length_append, List.length_cons] at hl; omega) (fun I1 o1 h1 => ?_)
    refine bX8_putPower_12 ⟨fun c2 => ?_, fun c2 => ⟨h.1, ?_⟩⟩
    · rw [if_pos c2] at hq
      exact hq I1 o1 h1
    · rw [if_neg c2] at hq hl
      refine put_spec h h1 (by simp only [List.length_append, List.length_cons, List.length_nil] at hl ⊢; omega) (fun I2 o2 h2 => ⟨h.1, ?_⟩)
      refine putNumber_spec h h2 (by simp only [List.length_append, List.length_cons, List.length_nil] at hl ⊢; omega) (by omega) (fun I3 o3 h3 => hq I3 (o1.tr (o2.tr o3)) ?_)
      rw [List.append_assoc, List.append_assoc] at h3
      exact h3
theorem offT.has {I I' : MI} {a : Nat} {f : List Tm} (h : Has I a f) (ho : offT I I' t) (hd : t + 1 < a ∨ a + 2 < t) : Has I' a f := by
  refine ⟨by rw [ho a (by omega) (by omega)]; exact h.1, fun i x hx => ?_⟩
  rw [ho (a + 1) (by omega) (by omega), ho (a + 2) (by omega) (by omega)]
  exact h.2 i x hx
theorem w74 {a cap x2 : Nat} {m : Int} {I : MI} {L : List Int} (h : TxtS S R t) (hm : InR m) (hL : HasT I t L) (hl : (L ++ (powL 0 (exx m) ++ (powL 1 (exy m) ++ powL 2 (exz m)))).length ≤ 1080) (hx2 : x2 < 1000)
    (hq : ∀ I', offT I I' t → HasT I' t (L ++ (powL 0 (exx m) ++ (powL 1 (exy m) ++ powL 2 (exz m)))) → LX8_write_20 G t a ((x2 + 1 : Nat) : Int) S I' R Q) : LX8_write_74 G t a (x2 : Int) m 0 S I R Q := by
  have r := ex_r m
  have len : ∀ {A B C : List Int}, (A ++ (B ++ C)).length ≤ 1080 → (A ++ B).length ≤ 1080 ∧ ((A ++ B) ++ C).length ≤ 1080 := by
    intro A B C hh
    simp only [List.length_append] at hh ⊢
    omega
  have x0 : ex m 0 = exx m := rfl
  have x1 : ex m 1 = exy m := rfl
  have x2' : ex m 2 = exz m := rfl
  refine bX8_write_74 (br_f (by omega) ⟨h.1, ?_⟩)
  rw [vexp hm (by omega), x0]
  refine putPower_spec h hL (len hl).1 (by omega) (by omega) (fun I1 o1 h1 => ?_)
  rw [show w32 ((0 : Int) + 1) = 1 by rw [w32_id (by omega)]; rfl]
  refine bX8_write_74 (br_f (by omega) ⟨h.1, ?_⟩)
  rw [vexp hm (by omega), x1]
  refine putPower_spec h h1 (len (len hl).2).1 (by omega) (by omega) (fun I2 o2 h2 => ?_)
  rw [show w32 ((1 : Int) + 1) = 2 by rw [w32_id (by omega)]; rfl]
  refine bX8_write_74 (br_f (by omega) ⟨h.1, ?_⟩)
  rw [vexp hm (by omega), x2']
  refine putPower_spec h h2 (len (len hl).2).2 (by omega) (by omega) (fun I3 o3 h3 => ?_)
  rw [show w32 ((2 : Int) + 1) = 3 by rw [w32_id (by omega)]; rfl]
  refine bX8_write_74 (br_t (by omega) ?_)
  rw [add1 (by omega)]
  refine hq I3 (o1.tr (o2.tr o3)) ?_
  rw [List.append_assoc, List.append_assoc] at h3
  exact h3
theorem w20 {a cap : Nat} {f : List Tm} (h : TxtS S R t) (hp : PolyS S R a cap) (hd : t + 1 < a ∨ a + 2 < t) (hcap : f.length ≤ cap) (hf : ∀ s ∈ f, okm s.1 ∧ 0 ≤ s.2 ∧ s.2 < 2147483648) (h60 : f.length ≤ 60) : ∀ (k i : Nat) (I : MI) (L : List Int), f.length - i = k → i ≤ f.length → Has I a f → HasT I t L → (L ++ shwR i (f.drop i)).length ≤ 1080 →
    (∀ I', offT I I' t → HasT I' t (L ++ shwR i (f.drop i)) → Q S I' R) → LX8_write_20 G t a (i : Int) S I R Q := by
  intro k
  induction k with
  | zero =>
    intro i I L hk hi hf2 hL hl hq
    refine bX8_write_20 ⟨hp.1, ?_⟩
    rw [hf2.1]
    refine br_t (by omega) (hq I offT.rf ?_)
    rw [List.drop_eq_nil_of_le (by omega), shwR, List.append_nil]; exact hL
  | succ k ih =>
    intro i I L hk hi hf2 hL hl hq
    have hif : i < f.length := by omega
    have hmem := hf _ (List.getElem_mem hif)
    have ed : f.drop i = f[i] :: f.drop (i + 1) := List.drop_eq_getElem_cons hif
    rw [ed, shwR] at hl hq
    -- the part behind the plus
    have part : ∀ (I1 : MI) (L1 : List Int), offT I I1 t → HasT I1 t L1 → L1 = L ++ (if i = 0 then [] else [43]) → LX8_write_38 G t a (i : Int) S I1 R Q := by
      intro I1 L1 o1 h1 e1
      have hf3 := offT.has hf2 o1 hd
      have hat := hf3.at hif
      have hl1 : (L1 ++ (trmL f[i] ++ shwR (i + 1) (f.drop (i + 1)))).length ≤ 1080 := by
        rw [e1]; simp only [List.length_append] at hl ⊢; omega
      have fin : ∀ (I2 : MI) (L2 : List Int), offT I1 I2 t → HasT I2 t L2 → L2 = L1 ++ (if (f[i]).2 = 1 ∧ (f[i]).1 ≠ 262143 then [] else dec (f[i]).2) → LX8_write_74 G t a (i : Int) (f[i]).1 0 S I2 R Q := by
        intro I2 L2 o2 h2 e2
        have e3 : L2 ++ (powL 0 (exx (f[i]).1) ++ (powL 1 (exy (f[i]).1) ++ powL 2 (exz (f[i]).1))) = L1 ++ trmL f[i] := by
          rw [e2, List.append_assoc]; rfl
        refine w74 (cap := cap) h hmem.1.i h2 (by rw [e3]; simp only [List.length_append] at hl1 ⊢; omega) (by omega) (fun I3 o3 h3 => ?_)
        rw [e3] at h3
        refine ih (i + 1) I3 (L1 ++ trmL f[i]) (by omega) (by omega) (offT.has hf3 (o2.tr o3) hd) h3 (by simp only [List.length_append] at hl1 ⊢; omega) (fun I4 o4 h4 => hq I4 (o1.tr (o2.tr (o3.tr o4))) ?_)
        have e5 : (L1 ++ trmL f[i]) ++ shwR (i + 1) (f.drop (i + 1)) = L ++ ((if i = 0 then [] else [43]) ++ (trmL f[i] ++ shwR (i + 1) (f.drop (i + 1)))) := by rw [e1]; simp only [List.append_assoc]
        rw [e5] at h4
        exact h4
      refine bX8_write_38 ?_
      rw [hp.2.1, hp.2.2.1, hp.2.2.2.1, hp.2.2.2.2.1, hp.2.2.2.2.2.1, hp.2.2.2.2.2.2, show Int.toNat (i : Int) = i by omega, hat.1, hat.2]
      have wr : ¬ ((f[i]).2 = 1 ∧ (f[i]).1 ≠ 262143) → CV G MX8_putNumber [vR t, vI (f[i]).2] S I1 R (fun S68 I68 R68 => LX8_write_74 G t a (i : Int) (f[i]).1 0 S68 I68 R68 Q) := by
        intro hc
        refine putNumber_spec h h1 ?_ hmem.2 (fun I2 o2 h2 => fin I2 _ o2 h2 (by rw [if_neg hc]))
        have e6 : trmL f[i] = dec (f[i]).2 ++ (powL 0 (exx (f[i]).1) ++ (powL 1 (exy (f[i]).1) ++ powL 2 (exz (f[i]).1))) := by unfold trmL; rw [if_neg hc]
        rw [e6] at hl1; simp only [List.length_append] at hl1 ⊢; omega
      refine ⟨hp.1, rfl, ⟨by omega, by omega⟩, rfl, ⟨by omega, by omega⟩, fun c => ⟨h.1, wr (fun q => c q.1)⟩, fun c => ⟨fun c2 => ?_, fun c2 => ⟨h.1, wr (fun q => c2 q.2)⟩⟩⟩
      exact fin I1 L1 offT.rf h1 (by rw [if_pos ⟨Decidable.not_not.mp c, c2⟩, List.append_nil])
    refine bX8_write_20 ⟨hp.1, ?_⟩
    rw [hf2.1]
    refine br_f (by omega) ⟨fun c => ?_, fun c => ⟨h.1, ?_⟩⟩
    · exact part I L offT.rf hL (by rw [if_pos (by omega), List.append_nil])
    · rw [if_neg (show i ≠ 0 by omega)] at hl
      refine put_spec h hL (by simp only [List.length_append, List.length_singleton] at hl; omega) (fun I1 o1 h1 => part I1 _ o1 h1 (by rw [if_neg (by omega)]))
theorem write_spec {a cap : Nat} {f : List Tm} {I : MI} (h : TxtS S R t) (hp : PolyS S R a cap) (hd : t + 1 < a ∨ a + 2 < t) (hcap : f.length ≤ cap) (hf : ∀ s ∈ f, okm s.1 ∧ 0 ≤ s.2 ∧ s.2 < 2147483648) (h60 : f.length ≤ 60) (hf2 : Has I a f)
    (hq : ∀ I', offT I I' t → HasT I' t (shwL f) → Q S I' R) : CV G MX8_write [vR t, vR a] S I R Q := by
  refine bX8_write ⟨h.1, fun I2 e2 => ⟨hp.1, ?_⟩⟩
  have o2 : offT I I2 t := fun b h1 h2 => u_n e2 h1
  have hf3 := offT.has hf2 o2 hd
  have h2 : HasT I2 t [] := ⟨by rw [u_s e2]; rfl, Arr.nil⟩
  have hlen := shwR_len f 0
  rw [hf3.1]
  by_cases hn : f = []
  · have e : shwL f = [48] := if_pos hn
    refine br_f (by rw [hn]; simp) (put_spec h h2 (by decide) (fun I3 o3 h3 => ?_))
    refine w20 h hp hd hcap hf h60 f.length 0 I3 [48] (by omega) (by omega) (offT.has hf3 o3 hd) h3 (by rw [hn]; decide) (fun I4 o4 h4 => hq I4 (o2.tr (o3.tr o4)) ?_)
    rw [e]
    rw [hn] at h4
    exact h4
  · have e : shwL f = shwR 0 f := if_neg hn
    have hn2 : f.length ≠ 0 := fun q => hn (List.length_eq_zero_iff.mp q)
    refine br_t (by omega) (w20 h hp hd hcap hf h60 f.length 0 I2 [] (by omega) (by omega) hf3 h2 (by rw [List.nil_append, List.drop_zero]; omega) (fun I4 o4 h4 => hq I4 (o2.tr o4) ?_))
    rw [e]
    exact h4
end R8

