/-! ===== reading factors and terms ===== -/
abbrev Fl : Type := Int × Int
abbrev St : Type := Nat × Int × (Nat → Int)
def upE (e : Nat → Int) (v : Nat) (x : Int) : Nat → Int := fun i => if i = v then x else e i
section FacDefs
variable (b : Nat → Int) (n : Nat) (p nv : Int) (w : Nat → Int)
abbrev isF (s : Nat) : Prop := s < n ∧ (isDg (b s) ∨ (120 ≤ b s ∧ b s < 120 + nv))
def addE (s v : Nat) (y : Int) (pos : Nat) (num : Int) (e : Nat → Int) : Fl ⊕ St := if 30 < e v + y then Sum.inl (2, (s : Int)) else Sum.inr (pos, num, upE e v (e v + y))
def fac (s : Nat) (num : Int) (e : Nat → Int) : Fl ⊕ St :=
  if isDg (b s) then
    (if 5 < (dgs b n 5 s).1 - s then Sum.inl (1, (s : Int)) else Sum.inr (sk b n (dgs b n 5 s).1, num * ((dgs b n 5 s).2 % p) % p, e))
  else if see b n (sk b n (s + 1)) = 94 then
    (if (dgs b n 2 (sk b n (sk b n (s + 1) + 1))).1 = sk b n (sk b n (s + 1) + 1) ∨ 2 < (dgs b n 2 (sk b n (sk b n (s + 1) + 1))).1 - sk b n (sk b n (s + 1) + 1) then Sum.inl (1, (sk b n (sk b n (s + 1) + 1) : Int))
     else addE s (b s - 120).toNat (dgs b n 2 (sk b n (sk b n (s + 1) + 1))).2 (sk b n (dgs b n 2 (sk b n (sk b n (s + 1) + 1))).1) num e)
  else addE s (b s - 120).toNat 1 (sk b n (s + 1)) num e
def facs : Nat → Nat → Int → (Nat → Int) → Fl ⊕ St
  | 0, s, num, e => Sum.inr (s, num, e)
  | k + 1, s, num, e => if isF b n nv s then (match fac b n p s num e with
    | Sum.inl f => Sum.inl f
    | Sum.inr st => facs k st.1 st.2.1 st.2.2) else Sum.inr (s, num, e)
def ngP (x : Int) : Int := if x = 0 then 0 else p - x
def smd (minus : Bool) (s : Nat) : Fl ⊕ (Nat × Tm) :=
  if isF b n nv s then (match facs b n p nv n s 1 (fun _ => 0) with
    | Sum.inl f => Sum.inl f
    | Sum.inr st => Sum.inr (st.1, (key w (st.2.2 0) (st.2.2 1) (st.2.2 2), if minus = true then ngP p st.2.1 else st.2.1)))
  else Sum.inl (1, (s : Int))
def rdL : Nat → Nat → Bool → List Tm → Fl ⊕ List Tm
  | 0, _, _, raw => Sum.inr raw
  | k + 1, s, minus, raw => match smd b n p nv w minus s with
    | Sum.inl f => Sum.inl f
    | Sum.inr st => if see b n st.1 = 43 then rdL k (sk b n (st.1 + 1)) false (raw ++ [st.2])
      else if see b n st.1 = 45 then rdL k (sk b n (st.1 + 1)) true (raw ++ [st.2])
      else if see b n st.1 = -1 then Sum.inr (raw ++ [st.2]) else Sum.inl (1, (st.1 : Int))
/-- what is read: a fault, or terms -/
def rdAll : Fl ⊕ List Tm := if see b n (sk b n 0) = 45 then rdL b n p nv w (n + 1) (sk b n (sk b n 0 + 1)) true [] else rdL b n p nv w (n + 1) (sk b n 0) false []
/-- what POLY makes of a tape -/
def rdP : Fl ⊕ List Tm := match rdAll b n p nv w with
  | Sum.inl f => Sum.inl f
  | Sum.inr raw => if 60 < (canon p raw).length then Sum.inl (3, (n : Int)) else Sum.inr (canon p raw)
end FacDefs
def okE (nv : Int) (e : Nat → Int) : Prop := ∀ i, i < 3 → 0 ≤ e i ∧ e i ≤ 30 ∧ (nv ≤ (i : Int) → e i = 0)
theorem upE_s {e : Nat → Int} {v : Nat} {x : Int} : upE e v x v = x := if_pos rfl
theorem upE_n {e : Nat → Int} {v i : Nat} {x : Int} (h : i ≠ v) : upE e v x i = e i := if_neg h
section FacOk
variable {b : Nat → Int} {n : Nat} {p nv : Int} {w : Nat → Int}
theorem addE_ok {s v pos : Nat} {y num : Int} {e : Nat → Int} {st : St} (hv : v < 3) (hvn : (v : Int) < nv) (he : okE nv e) (hy : 0 ≤ y) (h : addE s v y pos num e = Sum.inr st) : st.1 = pos ∧ st.2.1 = num ∧ okE nv st.2.2 := by
  unfold addE at h
  by_cases hc : 30 < e v + y
  · rw [if_pos hc] at h; cases h
  · rw [if_neg hc] at h
    cases h
    refine ⟨rfl, rfl, fun i hi => ?_⟩
    by_cases hiv : i = v
    · subst hiv
      show 0 ≤ upE e i (e i + y) i ∧ upE e i (e i + y) i ≤ 30 ∧ _
      rw [upE_s]
      have := he i hi
      exact ⟨by omega, by omega, fun q => by omega⟩
    · show 0 ≤ upE e v (e v + y) i ∧ upE e v (e v + y) i ≤ 30 ∧ (_ → upE e v (e v + y) i = 0)
      rw [upE_n hiv]
      exact he i hi
theorem fac_ok {s : Nat} {num : Int} {e : Nat → Int} {st : St} (hp : 2 ≤ p) (hnv : 1 ≤ nv ∧ nv ≤ 3) (hf : isF b n nv s) (hnum : 0 ≤ num ∧ num < p) (he : okE nv e) (h : fac b n p s num e = Sum.inr st) :
    s < st.1 ∧ st.1 ≤ n ∧ sk b n st.1 = st.1 ∧ (0 ≤ st.2.1 ∧ st.2.1 < p) ∧ okE nv st.2.2 := by
  unfold fac at h
  by_cases hd : isDg (b s)
  · rw [if_pos hd] at h
    have d1 := dgs_pos (most := 5) hf.1 hd
    have d2 := dgs_r (b := b) (most := 5) (n := n) (a := s) (by have := hf.1; omega)
    by_cases h5 : 5 < (dgs b n 5 s).1 - s
    · rw [if_pos h5] at h; cases h
    · rw [if_neg h5] at h
      cases h
      exact ⟨by have := sk_ge (b := b) d2.2; show s < sk b n _; omega, sk_le d2.2, sk_sk d2.2, ⟨Int.emod_nonneg _ (by omega), Int.emod_lt_of_pos _ (by omega)⟩, he⟩
  · rw [if_neg hd] at h
    have hb : 120 ≤ b s ∧ b s < 120 + nv := hf.2.resolve_left hd
    have hs1 : s + 1 ≤ n := hf.1
    have k1 := sk_ge (b := b) hs1
    have k2 := sk_le (b := b) hs1
    by_cases hx : see b n (sk b n (s + 1)) = 94
    · rw [if_pos hx] at h
      have k3 := see_lt (b := b) (n := n) (a := sk b n (s + 1)) (by rw [hx]; decide)
      have k4 := sk_ge (b := b) (n := n) (a := sk b n (s + 1) + 1) k3
      have k5 := sk_le (b := b) (n := n) (a := sk b n (s + 1) + 1) k3
      have k6 := dgs_r (b := b) (most := 2) k5
      have k7 := dgs_v (b := b) (n := n) (most := 2) (a := sk b n (sk b n (s + 1) + 1)) (by omega)
      by_cases h5 : (dgs b n 2 (sk b n (sk b n (s + 1) + 1))).1 = sk b n (sk b n (s + 1) + 1) ∨ 2 < (dgs b n 2 (sk b n (sk b n (s + 1) + 1))).1 - sk b n (sk b n (s + 1) + 1)
      · rw [if_pos h5] at h; cases h
      · rw [if_neg h5] at h
        have := addE_ok (nv := nv) (by omega) (by omega) he k7.1 h
        rw [this.1, this.2.1]
        have k8 := sk_ge (b := b) k6.2
        exact ⟨by omega, sk_le k6.2, sk_sk k6.2, hnum, this.2.2⟩
    · rw [if_neg hx] at h
      have := addE_ok (nv := nv) (by omega) (by omega) he (by omega) h
      rw [this.1, this.2.1]
      exact ⟨by omega, k2, sk_sk hs1, hnum, this.2.2⟩
theorem facs_ok (hp : 2 ≤ p) (hnv : 1 ≤ nv ∧ nv ≤ 3) : ∀ (k s : Nat) (num : Int) (e : Nat → Int) (st : St), s ≤ n → sk b n s = s → (0 ≤ num ∧ num < p) → okE nv e → facs b n p nv k s num e = Sum.inr st →
    s ≤ st.1 ∧ st.1 ≤ n ∧ sk b n st.1 = st.1 ∧ (0 ≤ st.2.1 ∧ st.2.1 < p) ∧ okE nv st.2.2 ∧ (0 < k → isF b n nv s → s < st.1) := by
  intro k
  induction k with
  | zero => intro s num e st hs hss hn he h; rw [facs] at h; cases h; exact ⟨Nat.le_refl _, hs, hss, hn, he, fun q => absurd q (by omega)⟩
  | succ k ih =>
    intro s num e st hs hss hn he h
    rw [facs] at h
    by_cases hf : isF b n nv s
    · rw [if_pos hf] at h
      cases hfa : fac b n p s num e with
      | inl f => rw [hfa] at h; cases h
      | inr st1 =>
        rw [hfa] at h
        have h1 := fac_ok hp hnv hf hn he hfa
        have h2 := ih st1.1 st1.2.1 st1.2.2 st h1.2.1 h1.2.2.1 h1.2.2.2.1 h1.2.2.2.2 h
        exact ⟨by omega, h2.2.1, h2.2.2.1, h2.2.2.2.1, h2.2.2.2.2.1, fun _ _ => by omega⟩
    · rw [if_neg hf] at h; cases h; exact ⟨Nat.le_refl _, hs, hss, hn, he, fun _ q => absurd q hf⟩
/-- a key with no exponents but the variables' -/
def inV (nv m : Int) : Prop := (nv ≤ 1 → exy m = 0) ∧ (nv ≤ 2 → exz m = 0)
theorem okE_key {e : Nat → Int} (hw : wtOK w) (he : okE nv e) : okm (key w (e 0) (e 1) (e 2)) ∧ ¬ hi (key w (e 0) (e 1) (e 2)) ∧ gk w (key w (e 0) (e 1) (e 2)) ∧ inV nv (key w (e 0) (e 1) (e 2)) := by
  have h0 := he 0 (by omega)
  have h1 := he 1 (by omega)
  have h2 := he 2 (by omega)
  refine ⟨okm_key hw (by omega) (by omega) (by omega), ?_, gk_key (by omega) (by omega) (by omega), ?_⟩
  · unfold hi key
    rw [exx_pk (by omega) (by omega) (by omega), exy_pk (by omega) (by omega) (by omega), exz_pk (by omega) (by omega) (by omega)]
    omega
  · unfold inV key
    rw [exy_pk (by omega) (by omega) (by omega), exz_pk (by omega) (by omega) (by omega)]
    exact ⟨fun q => h1.2.2 (by omega), fun q => h2.2.2 (by omega)⟩
theorem ngP_r {x : Int} (h : 0 ≤ x ∧ x < p) : 0 ≤ ngP p x ∧ ngP p x < p := by
  unfold ngP
  by_cases hx : x = 0
  · rw [if_pos hx]; omega
  · rw [if_neg hx]; omega
/-- what a term that was read is -/
def okTm (p nv : Int) (w : Nat → Int) (t : Tm) : Prop := (okm t.1 ∧ ¬ hi t.1 ∧ gk w t.1 ∧ inV nv t.1) ∧ 0 ≤ t.2 ∧ t.2 < p
theorem smd_ok {minus : Bool} {s : Nat} {st : Nat × Tm} (hp : 2 ≤ p) (hnv : 1 ≤ nv ∧ nv ≤ 3) (hw : wtOK w) (hs : s ≤ n) (hss : sk b n s = s) (h : smd b n p nv w minus s = Sum.inr st) : s < st.1 ∧ st.1 ≤ n ∧ sk b n st.1 = st.1 ∧ okTm p nv w st.2 := by
  unfold smd at h
  by_cases hf : isF b n nv s
  · rw [if_pos hf] at h
    cases hfa : facs b n p nv n s 1 (fun _ => 0) with
    | inl f => rw [hfa] at h; cases h
    | inr st1 =>
      rw [hfa] at h
      have h1 := facs_ok hp hnv n s 1 (fun _ => 0) st1 hs hss ⟨by omega, by omega⟩ (fun i _ => ⟨Int.le_refl 0, by show (0 : Int) ≤ 30; decide, fun _ => rfl⟩) hfa
      cases h
      refine ⟨h1.2.2.2.2.2 (by have := hf.1; omega) hf, h1.2.1, h1.2.2.1, okE_key hw h1.2.2.2.2.1, ?_⟩
      cases minus with
      | false => exact h1.2.2.2.1
      | true => exact ngP_r h1.2.2.2.1
  · rw [if_neg hf] at h; cases h
theorem rdL_ok (hp : 2 ≤ p) (hnv : 1 ≤ nv ∧ nv ≤ 3) (hw : wtOK w) : ∀ (k s : Nat) (minus : Bool) (raw L : List Tm), s ≤ n → sk b n s = s → (∀ t ∈ raw, okTm p nv w t) → rdL b n p nv w k s minus raw = Sum.inr L → ∀ t ∈ L, okTm p nv w t := by
  intro k
  induction k with
  | zero => intro s minus raw L _ _ hr h; rw [rdL] at h; cases h; exact hr
  | succ k ih =>
    intro s minus raw L hs hss hr h
    rw [rdL] at h
    cases hsm : smd b n p nv w minus s with
    | inl f => rw [hsm] at h; cases h
    | inr st =>
      rw [hsm] at h
      have h1 := smd_ok hp hnv hw hs hss hsm
      have hr2 : ∀ t ∈ raw ++ [st.2], okTm p nv w t := fun t ht => (List.mem_append.mp ht).elim (hr t) (fun q => by rw [List.mem_singleton.mp q]; exact h1.2.2.2)
      change (if see b n st.1 = 43 then rdL b n p nv w k (sk b n (st.1 + 1)) false (raw ++ [st.2]) else if see b n st.1 = 45 then rdL b n p nv w k (sk b n (st.1 + 1)) true (raw ++ [st.2]) else if see b n st.1 = -1 then Sum.inr (raw ++ [st.2]) else Sum.inl (1, (st.1 : Int))) = Sum.inr L at h
      by_cases c1 : see b n st.1 = 43
      · rw [if_pos c1] at h
        have := see_lt (b := b) (n := n) (a := st.1) (by rw [c1]; decide)
        exact ih _ _ _ _ (sk_le this) (sk_sk this) hr2 h
      · rw [if_neg c1] at h
        by_cases c2 : see b n st.1 = 45
        · rw [if_pos c2] at h
          have := see_lt (b := b) (n := n) (a := st.1) (by rw [c2]; decide)
          exact ih _ _ _ _ (sk_le this) (sk_sk this) hr2 h
        · rw [if_neg c2] at h
          by_cases c3 : see b n st.1 = -1
          · rw [if_pos c3] at h; cases h; exact hr2
          · rw [if_neg c3] at h; cases h
theorem rdAll_ok {L : List Tm} (hp : 2 ≤ p) (hnv : 1 ≤ nv ∧ nv ≤ 3) (hw : wtOK w) (h : rdAll b n p nv w = Sum.inr L) : ∀ t ∈ L, okTm p nv w t := by
  unfold rdAll at h
  have h0 : sk b n 0 ≤ n := sk_le (Nat.zero_le _)
  by_cases c : see b n (sk b n 0) = 45
  · rw [if_pos c] at h
    have := see_lt (b := b) (n := n) (a := sk b n 0) (by rw [c]; decide)
    exact rdL_ok hp hnv hw _ _ _ _ _ (sk_le this) (sk_sk this) (fun t ht => by cases ht) h
  · rw [if_neg c] at h
    exact rdL_ok hp hnv hw _ _ _ _ _ h0 (sk_sk (Nat.zero_le _)) (fun t ht => by cases ht) h
end FacOk

