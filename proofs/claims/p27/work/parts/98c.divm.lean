/-! ===== the division: what its equations say ===== -/
def cq (p x y : Int) : Prop := p ∣ x - y
theorem cq.rf {p x : Int} : cq p x x := by unfold cq; rw [Int.sub_self]; exact Int.dvd_zero _
theorem cq.sy {p x y : Int} (h : cq p x y) : cq p y x := by
  obtain ⟨k, hk⟩ := h
  exact ⟨-k, by rw [Int.mul_neg, ← hk]; omega⟩
theorem cq.tr {p x y z : Int} (h : cq p x y) (h2 : cq p y z) : cq p x z := by
  obtain ⟨k, hk⟩ := h
  obtain ⟨l, hl⟩ := h2
  exact ⟨k + l, by rw [Int.mul_add, ← hk, ← hl]; omega⟩
theorem cq.ad {p x y z w : Int} (h : cq p x y) (h2 : cq p z w) : cq p (x + z) (y + w) := by
  obtain ⟨k, hk⟩ := h
  obtain ⟨l, hl⟩ := h2
  exact ⟨k + l, by rw [Int.mul_add, ← hk, ← hl]; omega⟩
theorem cq.su {p x y z w : Int} (h : cq p x y) (h2 : cq p z w) : cq p (x - z) (y - w) := by
  obtain ⟨k, hk⟩ := h
  obtain ⟨l, hl⟩ := h2
  exact ⟨k - l, by rw [Int.mul_sub, ← hk, ← hl]; omega⟩
theorem cq.mu {p x y : Int} (a : Int) (h : cq p x y) : cq p (a * x) (a * y) := by
  obtain ⟨k, hk⟩ := h
  exact ⟨a * k, by rw [← Int.mul_sub, hk]; exact Int.mul_left_comm _ _ _⟩
theorem cq.em {p x y : Int} : cq p x y ↔ x % p = y % p := emq.symm
theorem cq.eq {p x y : Int} (h : x = y) : cq p x y := by rw [h]; exact cq.rf
theorem cf_mg {p num sh : Int} (k : Int) (f g : List Tm) : cq p (cf (mg p num sh f g) k) (cf f k + num * cf g (k - sh)) :=
  (cq.em.mpr (mg_cf k)).tr (cq.rf.ad (cq.em.mpr (tm_cf p num sh g k)))
/-- the coefficient of a times b at m, laid out along b -/
def pc (a : List Tm) (m : Int) : List Tm → Int
  | [] => 0
  | t :: b => t.2 * cf a (m - t.1 + 262143) + pc a m b
theorem pc_mg {p num sh : Int} {A B : List Tm} {m : Int} : ∀ b : List Tm, cq p (pc (mg p num sh A B) m b) (pc A m b + num * pc B (m - sh) b)
  | [] => by rw [pc, pc, pc, Int.mul_zero]; exact cq.rf
  | t :: b => by
    rw [pc, pc, pc]
    have h1 := (cf_mg (p := p) (num := num) (sh := sh) (m - t.1 + 262143) A B).mu t.2
    have h2 := pc_mg (p := p) (num := num) (sh := sh) (A := A) (B := B) (m := m) b
    refine (h1.ad h2).tr (cq.eq ?_)
    rw [show m - sh - t.1 + 262143 = m - t.1 + 262143 - sh by omega, Int.mul_add, Int.mul_add, Int.mul_left_comm num t.2]
    omega
theorem pc_nil (m : Int) : ∀ b : List Tm, pc [] m b = 0
  | [] => rfl
  | t :: b => by rw [pc, pc_nil m b, show cf [] (m - t.1 + 262143) = 0 from rfl, Int.mul_zero]; rfl
theorem pc_one (x m : Int) : ∀ b : List Tm, pc (oneL x) m b = x * cf b m
  | [] => by rw [pc, show cf [] m = 0 from rfl, Int.mul_zero]
  | t :: b => by
    rw [pc, pc_one x m b]
    show t.2 * ((if (262143 : Int) = m - t.1 + 262143 then x else 0) + 0) + x * cf b m = x * ((if t.1 = m then t.2 else 0) + cf b m)
    by_cases h : t.1 = m
    · rw [if_pos (by omega), if_pos h, Int.add_zero, Int.mul_add, Int.mul_comm t.2]
    · rw [if_neg (by omega), if_neg h, show (0 : Int) + cf b m = cf b m from Int.zero_add _, show (0 : Int) + 0 = 0 from rfl, Int.mul_zero, Int.zero_add]
/-- E's first is its unit times a, less its shares times their polynomials -/
def EqO (p : Int) (f : Nat → List Tm) (a : List Tm) (E : Eq3) : Prop := ∀ m, cq p (cf E.1 m) (pc E.2.1 m a - sm (fun k => pc (E.2.2 k) m (f k)) 8)
theorem sm_cq {p : Int} {g h : Nat → Int} : ∀ {n : Nat}, (∀ k, k < n → cq p (g k) (h k)) → cq p (sm g n) (sm h n)
  | 0, _ => cq.rf
  | n + 1, hh => by rw [sm, sm]; exact (sm_cq fun k hk => hh k (by omega)).ad (hh n (by omega))
theorem EqO.mix {p num sh : Int} {f : Nat → List Tm} {a : List Tm} {A B : Eq3} (hA : EqO p f a A) (hB : EqO p f a B) : EqO p f a (mixE p num sh A B) := by
  intro m
  show cq p (cf (mg p num sh A.1 B.1) m) (pc (mg p num sh A.2.1 B.2.1) m a - sm (fun k => pc (mg p num sh (A.2.2 k) (B.2.2 k)) m (f k)) 8)
  have h1 := (cf_mg (p := p) (num := num) (sh := sh) m A.1 B.1).tr ((hA m).ad ((hB (m - sh)).mu num))
  have h2 := pc_mg (p := p) (num := num) (sh := sh) (A := A.2.1) (B := B.2.1) (m := m) a
  have h3 : cq p (sm (fun k => pc (mg p num sh (A.2.2 k) (B.2.2 k)) m (f k)) 8) (sm (fun k => pc (A.2.2 k) m (f k)) 8 + num * sm (fun k => pc (B.2.2 k) (m - sh) (f k)) 8) := by
    refine (sm_cq (fun k _ => pc_mg (f k))).tr (cq.eq ?_)
    rw [sm_add, sm_mul]
  refine h1.tr ((cq.eq ?_).tr (h2.su h3).sy)
  rw [Int.mul_sub]
  omega
/-! the steps -/
theorem srt_hd {L : List Tm} (h : Srt L) (hn : L ≠ []) : ∀ y ∈ L, hdM L ≤ y.1 := by
  cases L with
  | nil => exact absurd rfl hn
  | cons t r =>
    intro y hy
    rcases List.mem_cons.mp hy with e | e
    · rw [e]; exact Int.le_refl _
    · have := h.head y e
      show t.1 ≤ y.1
      omega
theorem ngP_cq {p x : Int} : cq p (ngP p x) (-x) := by
  unfold ngP
  by_cases h : x = 0
  · rw [if_pos h, h]; exact cq.rf
  · rw [if_neg h]
    exact ⟨1, by omega⟩
theorem tms_cq {p : Nat} {h t : List Tm} (hp : isP p) (hp2 : (p : Int) ≤ 32749) (ht : 0 < hdN t ∧ hdN t < (p : Int)) : cq (p : Int) (tmsD (p : Int) h t * hdN t) (hdN h) := by
  unfold tmsD
  have h1 : cq (p : Int) (hdN h * inv (p : Int) (hdN t) % (p : Int)) (hdN h * inv (p : Int) (hdN t)) := cq.em.mpr (Int.emod_emod_of_dvd _ (Int.dvd_refl _))
  have h2 : cq (p : Int) (inv (p : Int) (hdN t) * hdN t) 1 := inv_ok hp (by omega) ht
  have h3 := (h1.mu (hdN t)).tr ((cq.eq (by rw [Int.mul_comm (hdN t), Int.mul_assoc])).tr (h2.mu (hdN h)))
  rw [Int.mul_one] at h3
  exact (cq.eq (Int.mul_comm _ _)).tr h3
/-- the lead goes away: all that is left stands behind it -/
theorem now_gt {p : Nat} {h t : List Tm} (hp : isP p) (hp2 : (p : Int) ≤ 32749) (hh : Can (p : Int) h) (hth : Can (p : Int) t) (nh : h ≠ []) (nt : t ≠ []) : ∀ y ∈ mg (p : Int) (ngP (p : Int) (tmsD (p : Int) h t)) (hdM h - hdM t) h t, hdM h < y.1 := by
  have hp0 : (0 : Int) < (p : Int) := by have := hp.1; omega
  cases h with
  | nil => exact absurd rfl nh
  | cons a hr =>
    cases t with
    | nil => exact absurd rfl nt
    | cons b tr =>
      have e1 : hdM (a :: hr) = a.1 := rfl
      have e2 : hdM (b :: tr) = b.1 := rfl
      have n2 : hdN (b :: tr) = b.2 := rfl
      have n1 : hdN (a :: hr) = a.2 := rfl
      have tb := tms_cq (h := a :: hr) (t := b :: tr) hp hp2 (by rw [n2]; exact hth.2 b List.mem_cons_self)
      rw [n2, n1] at tb
      rw [e1, e2]
      generalize tmsD (p : Int) (a :: hr) (b :: tr) = num at tb ⊢
      have z : (a.2 + ngP (p : Int) num * b.2) % (p : Int) = 0 := by
        have h1 : cq (p : Int) (a.2 + b.2 * ngP (p : Int) num) (a.2 + b.2 * (-num)) := cq.rf.ad (ngP_cq.mu b.2)
        have h2 : cq (p : Int) (a.2 + b.2 * (-num)) 0 := by
          have := (cq.rf (x := a.2)).su tb
          rw [Int.sub_self] at this
          exact (cq.eq (by rw [Int.mul_neg, Int.mul_comm b.2 num]; omega)).tr this
        have h3 := h1.tr h2
        rw [Int.mul_comm b.2] at h3
        exact emz.mpr (by have := h3; unfold cq at this; rwa [Int.sub_zero] at this)
      rw [mg, if_neg (by omega), if_neg (by omega), z]
      intro y hy
      rcases cons0_mem hy with ⟨-, hz⟩ | hy
      · exact absurd rfl hz
      · rcases mg_mem hy with ⟨u, hu, e⟩ | ⟨u, hu, e⟩
        · have := hh.1.head u hu
          omega
        · have := hth.1.head u hu
          omega
def UniO (L : List Tm) : Prop := ∃ r, L = (262143, 1) :: r
theorem uni_nil {p num sh : Int} {U : List Tm} (h : UniO U) : UniO (mg p num sh U []) := by
  obtain ⟨r, rfl⟩ := h
  exact ⟨mg p num sh r [], by rw [mg, cons0, if_neg (by decide)]⟩
theorem uni_mix {p num sh : Int} {U V : List Tm} (h : UniO U) (h2 : UniO V) (hs : 0 < sh) : UniO (mg p num sh U V) := by
  obtain ⟨r, rfl⟩ := h
  obtain ⟨q, rfl⟩ := h2
  exact ⟨mg p num sh r ((262143, 1) :: q), by rw [mg, if_pos (by show (262143 : Int) < 262143 + sh; omega), cons0, if_neg (by decide)]⟩
theorem mg_nn {p num sh : Int} : mg p num sh [] [] = [] := by rw [mg]
theorem bst_all {T : Nat → Eq3} {h : List Tm} : ∀ m, (bst T h m).1 = -1 → ∀ i, i < m → (T i).1 ≠ [] → ¬ dvs (hdM (T i).1) (hdM h)
  | 0, _, i, hi => absurd hi (Nat.not_lt_zero _)
  | m + 1, hb, i, hi => by
    intro hn hd
    rw [bst] at hb
    by_cases c : isBest T h (bst T h m) m
    · rw [if_pos c] at hb
      have hb : (m : Int) = -1 := hb
      omega
    · rw [if_neg c] at hb
      by_cases e : i = m
      · exact c ⟨by rw [← e]; exact hn, by rw [← e]; exact hd, Or.inl hb⟩
      · exact bst_all m hb i (by omega) hn hd
theorem bestD_none {T : Nat → Eq3} {h : List Tm} {m : Nat} (hb : bestD T h m = -1) (hn : h ≠ []) : ∀ i, i < m → (T i).1 ≠ [] → ¬ dvs (hdM (T i).1) (hdM h) := by
  unfold bestD at hb
  rw [if_neg hn] at hb
  exact bst_all m hb
/-- what holds of a division all along; nb: how many of the SET there are -/
def DInv (p : Nat) (nv : Int) (w : Nat → Int) (f : Nat → List Tm) (st : Int) (a nb : Nat) (s : Dv) : Prop :=
  DivO (p : Int) nv w s ∧ (EqO (p : Int) f (f a) s.2.2.2.1 ∧ ∀ i, i < s.2.1 → EqO (p : Int) f (f a) (s.2.2.1 i)) ∧
  (UniO s.2.2.2.1.2.1 ∧ (∀ i, nb ≤ i → i < s.2.1 → UniO (s.2.2.1 i).2.1) ∧ ∀ i, i < nb → (s.2.2.1 i).2.1 = []) ∧
  (∀ k, k < 8 → bitI st k = 0 → s.2.2.2.1.2.2 k = [] ∧ ∀ i, i < s.2.1 → (s.2.2.1 i).2.2 k = []) ∧
  (∀ i, nb ≤ i → i < s.2.1 → (s.2.2.1 i).1 ≠ [] ∧ (s.2.2.2.1.1 ≠ [] → hdM (s.2.2.1 i).1 < hdM s.2.2.2.1.1)) ∧
  (nb ≤ s.2.1 ∧ ∀ k, k < 8 → bitI st k = 1 → ∃ i, i < nb ∧ (s.2.2.1 i).1 = f k) ∧
  (∀ i, i < s.1 → (s.2.2.2.2 i 3 = 0 ∨ s.2.2.2.2 i 3 = 1) ∧ (s.2.2.2.2 i 2 < s.2.2.2.2 i 1 ↔ s.2.2.2.2 i 3 = 1) ∧ 0 ≤ s.2.2.2.2 i 4 ∧ (i + 1 < s.1 → s.2.2.2.2 i 4 ≤ s.2.2.2.2 (i + 1) 4) ∧ (s.2.2.2.1.1 ≠ [] → s.2.2.2.2 i 4 ≤ lowL s.2.2.2.1.1)) ∧
  sm (fun i => s.2.2.2.2 i 3) s.1 + (nb : Int) = (s.2.1 : Int)
theorem lowL_hd {L : List Tm} (h : L ≠ []) : lowL L = dg (hdM L) := by
  cases L with
  | nil => exact absurd rfl h
  | cons t r => rfl
theorem dg_mono {a b : Int} (h : a ≤ b) : dg a ≤ dg b := by unfold dg; omega
theorem sm_congr {g h : Nat → Int} : ∀ {n : Nat}, (∀ k, k < n → g k = h k) → sm g n = sm h n
  | 0, _ => rfl
  | n + 1, hh => by rw [sm, sm, sm_congr fun k hk => hh k (by omega), hh n (by omega)]
theorem DInv.step {p : Nat} {nv : Int} {w : Nat → Int} {f : Nat → List Tm} {st : Int} {a nb k : Nat} {s : Dv} (hp : isP p) (hp2 : (p : Int) ≤ 32749) (hw : wtOK w) (h : DInv p nv w f st a nb s) (hn : s.2.2.2.1.1 ≠ []) (hk : k < s.2.1) (hk0 : (s.2.2.1 k).1 ≠ []) (hd : dvs (hdM (s.2.2.1 k).1) (hdM s.2.2.2.1.1)) (hb : ¬ badD s k) (hf : fitE (nowD (p : Int) s.2.2.2.1 (s.2.2.1 k))) : DInv p nv w f st a nb (stpD (p : Int) s k) := by
  have hp0 : (0 : Int) < (p : Int) := by have := hp.1; omega
  obtain ⟨hO, ⟨e1, e2⟩, ⟨u1, u2, u3⟩, hs, hl, ⟨hnb, hg⟩, ht, hm⟩ := h
  have hO' := stpD_ok hp0 hw hO hk hk0 hn hd hb hf
  obtain ⟨steps, many, T, now, told⟩ := s
  dsimp only at *
  have c1 := hO.2.1.1.1
  have c2 := (hO.2.2 k hk).1.1
  dsimp only at c1 c2
  have gt := now_gt hp hp2 c1 c2 hn hk0
  have nowE : EqO (p : Int) f (f a) (nowD (p : Int) now (T k)) := EqO.mix e1 (e2 k hk)
  have key0 : ∀ y ∈ (nowD (p : Int) now (T k)).1, hdM now.1 < y.1 := gt
  have lead : (nowD (p : Int) now (T k)).1 ≠ [] → hdM now.1 < hdM (nowD (p : Int) now (T k)).1 := fun hne => key0 _ (hd_mem hne)
  have low : (nowD (p : Int) now (T k)).1 ≠ [] → lowL now.1 ≤ lowL (nowD (p : Int) now (T k)).1 := fun hne => by
    rw [lowL_hd hn, lowL_hd hne]
    exact dg_mono (by have := lead hne; omega)
  have low0 : 0 ≤ lowL now.1 := by
    rw [lowL_hd hn]
    have := (hO.2.1.1.2.1 _ (hd_mem hn)).1.1
    unfold dg
    show 0 ≤ hdM now.1 / 262144
    have h2 : 0 ≤ hdM now.1 := this
    omega
  have uniN : UniO (nowD (p : Int) now (T k)).2.1 := by
    by_cases ck : k < nb
    · show UniO (mg _ _ _ now.2.1 (T k).2.1)
      rw [u3 k ck]
      exact uni_nil u1
    · have := (hl k (by omega) hk).2 hn
      exact uni_mix u1 (u2 k (by omega) hk) (by omega)
  have shN : ∀ j, j < 8 → bitI st j = 0 → (nowD (p : Int) now (T k)).2.2 j = [] := fun j hj b0 => by
    show mg _ _ _ (now.2.2 j) ((T k).2.2 j) = []
    rw [(hs j hj b0).1, (hs j hj b0).2 k hk]
    exact mg_nn
  have eT : ∀ i, i < many → (stpT (steps, many, T, now, told) k).2 i = T i := fun i hi => by
    unfold stpT
    dsimp only
    split
    · exact if_neg (by omega)
    · rfl
  have rowT : ∀ i, i < steps → (stpD (p : Int) (steps, many, T, now, told) k).2.2.2.2 i = told i := fun i hi => if_neg (by omega)
  have rowN : (stpD (p : Int) (steps, many, T, now, told) k).2.2.2.2 steps = rowD k now (T k) := if_pos rfl
  have e3 : rowD k now (T k) 3 = if ecL now.1 < ecL (T k).1 then 1 else 0 := rfl
  have e14 : rowD k now (T k) 1 = ecL (T k).1 ∧ rowD k now (T k) 2 = ecL now.1 ∧ rowD k now (T k) 4 = lowL now.1 := ⟨rfl, rfl, rfl⟩
  have hmm : (stpD (p : Int) (steps, many, T, now, told) k).2.1 = if ecL now.1 < ecL (T k).1 then many + 1 else many := by
    show (stpT (steps, many, T, now, told) k).1 = _
    unfold stpT
    dsimp only
    split <;> rfl
  have hTm : ∀ i, i < (stpD (p : Int) (steps, many, T, now, told) k).2.1 → (i < many ∧ (stpD (p : Int) (steps, many, T, now, told) k).2.2.1 i = T i) ∨ (i = many ∧ (stpD (p : Int) (steps, many, T, now, told) k).2.2.1 i = now) := fun i hi => by
    by_cases c : i < many
    · exact Or.inl ⟨c, eT i c⟩
    · right
      rw [hmm] at hi
      by_cases cc : ecL now.1 < ecL (T k).1
      · rw [if_pos cc] at hi
        have : i = many := by omega
        refine ⟨this, ?_⟩
        show (stpT (steps, many, T, now, told) k).2 i = now
        unfold stpT
        dsimp only
        rw [if_pos cc]
        exact if_pos this
      · rw [if_neg cc] at hi; omega
  have hmle : many ≤ (stpD (p : Int) (steps, many, T, now, told) k).2.1 := by rw [hmm]; split <;> omega
  refine ⟨hO', ⟨nowE, fun i hi => ?_⟩, ⟨uniN, fun i h1 hi => ?_, fun i hi => ?_⟩, fun j hj b0 => ⟨shN j hj b0, fun i hi => ?_⟩, fun i h1 hi => ?_, ⟨by omega, fun j hj b1 => ?_⟩, fun i hi => ?_, ?_⟩
  · rcases hTm i hi with ⟨c, e⟩ | ⟨c, e⟩ <;> rw [e]
    · exact e2 i c
    · exact e1
  · rcases hTm i hi with ⟨c, e⟩ | ⟨c, e⟩ <;> rw [e]
    · exact u2 i h1 c
    · exact u1
  · show ((stpT (steps, many, T, now, told) k).2 i).2.1 = []
    rw [eT i (by omega)]
    exact u3 i hi
  · rcases hTm i hi with ⟨c, e⟩ | ⟨c, e⟩ <;> rw [e]
    · exact (hs j hj b0).2 i c
    · exact (hs j hj b0).1
  · rcases hTm i hi with ⟨c, e⟩ | ⟨c, e⟩ <;> rw [e]
    · exact ⟨(hl i h1 c).1, fun hne => by
        have q1 := (hl i h1 c).2 hn
        have q2 := lead hne
        show hdM (T i).1 < hdM (nowD (p : Int) now (T k)).1
        omega⟩
    · exact ⟨hn, fun hne => lead hne⟩
  · obtain ⟨i, hi, e⟩ := hg j hj b1
    refine ⟨i, hi, ?_⟩
    show ((stpT (steps, many, T, now, told) k).2 i).1 = f j
    rw [eT i (by omega)]
    exact e
  · have hi : i < steps + 1 := hi
    show ((stpD (p : Int) (steps, many, T, now, told) k).2.2.2.2 i 3 = 0 ∨ _) ∧ _
    by_cases c : i < steps
    · rw [rowT i c]
      obtain ⟨t1, t2, t3, t4, t5⟩ := ht i c
      refine ⟨t1, t2, t3, fun h1 => ?_, fun hne => Int.le_trans (t5 hn) (low hne)⟩
      have h1 : i + 1 < steps + 1 := h1
      by_cases c2 : i + 1 < steps
      · rw [rowT (i + 1) c2]; exact t4 c2
      · rw [show i + 1 = steps by omega, rowN, e14.2.2]; exact t5 hn
    · rw [show i = steps by omega, rowN, e3, e14.1, e14.2.1, e14.2.2]
      refine ⟨by split <;> omega, by split <;> omega, low0, fun h1 => ?_, fun hne => low hne⟩
      have h1 : steps + 1 < steps + 1 := h1
      omega
  · show sm (fun i => (stpD (p : Int) (steps, many, T, now, told) k).2.2.2.2 i 3) (steps + 1) + (nb : Int) = _
    rw [sm, rowN, e3, sm_congr (h := fun i => told i 3) (fun i hi => by rw [rowT i hi]), hmm]
    split <;> omega
theorem begT_st {p : Nat} {f : Nat → List Tm} {st : Int} : ∀ n, n ≤ 8 → (∀ i, i < (begT (p : Int) f st n).1 → ∃ k, k < n ∧ bitI st k = 1 ∧ (begT (p : Int) f st n).2 i = (f k, [], fun j => if j = k then oneL (ngP (p : Int) 1) else [])) ∧ ∀ k, k < n → bitI st k = 1 → ∃ i, i < (begT (p : Int) f st n).1 ∧ ((begT (p : Int) f st n).2 i).1 = f k
  | 0, _ => ⟨fun i hi => absurd hi (Nat.not_lt_zero _), fun k hk => absurd hk (Nat.not_lt_zero _)⟩
  | n + 1, hn => by
    obtain ⟨h1, h2⟩ := begT_st (p := p) (f := f) (st := st) n (by omega)
    rw [begT]
    by_cases c : bitI st n = 1
    · rw [if_pos c]
      refine ⟨fun i hi => ?_, fun k hk hb => ?_⟩
      · by_cases e : i = (begT (p : Int) f st n).1
        · exact ⟨n, by omega, c, if_pos e⟩
        · have hi : i < (begT (p : Int) f st n).1 + 1 := hi
          obtain ⟨k, a1, a2, a3⟩ := h1 i (by omega)
          exact ⟨k, by omega, a2, (if_neg e).trans a3⟩
      · by_cases e : k = n
        · refine ⟨(begT (p : Int) f st n).1, Nat.lt_succ_self _, ?_⟩
          rw [e]
          exact congrArg Prod.fst (if_pos rfl)
        · obtain ⟨i, a1, a2⟩ := h2 k (by omega) hb
          refine ⟨i, by show i < (begT (p : Int) f st n).1 + 1; omega, ?_⟩
          rw [← a2]
          exact congrArg Prod.fst (if_neg (by omega))
    · rw [if_neg c]
      refine ⟨fun i hi => ?_, fun k hk hb => ?_⟩
      · obtain ⟨k, a1, a2, a3⟩ := h1 i hi
        exact ⟨k, by omega, a2, a3⟩
      · have : k ≠ n := fun e => c (by rw [← e]; exact hb)
        exact h2 k (by omega) hb
theorem sm_pick {g : Nat → Int} {l : Nat} : ∀ {n : Nat}, l < n → (∀ j, j < n → j ≠ l → g j = 0) → sm g n = g l
  | 0, h, _ => absurd h (Nat.not_lt_zero _)
  | n + 1, hl, h => by
    rw [sm]
    by_cases e : l = n
    · subst e
      have : sm g l = 0 := by
        have : ∀ m, m ≤ l → sm g m = 0 := by
          intro m
          induction m with
          | zero => exact fun _ => rfl
          | succ m ih => exact fun hm => by rw [sm, ih (by omega), h m (by omega) (by omega)]; rfl
        exact this l (Nat.le_refl _)
      rw [this]; omega
    · rw [sm_pick (l := l) (by omega) (fun j hj hjl => h j (by omega) hjl), h n (by omega) (fun q => e q.symm)]; omega
theorem sm_0 {g : Nat → Int} : ∀ {n : Nat}, (∀ j, j < n → g j = 0) → sm g n = 0
  | 0, _ => rfl
  | n + 1, h => by rw [sm, sm_0 (fun j hj => h j (by omega)), h n (by omega)]; rfl
theorem DInv.beg {p : Nat} {nv : Int} {w : Nat → Int} {f : Nat → List Tm} {st : Int} {a : Nat} (hp : isP p) (ha : a < 8) (hf : ∀ k, k < 8 → okQ (p : Int) nv w (f k)) : DInv p nv w f st a (begT (p : Int) f st 8).1 (begD (p : Int) f st a) := by
  have hp2 : (2 : Int) ≤ (p : Int) := by have := hp.1; omega
  obtain ⟨b1, b2⟩ := begT_st (p := p) (f := f) (st := st) 8 (Nat.le_refl _)
  refine ⟨begD_ok hp2 ha hf, ⟨fun m => ?_, fun i hi m => ?_⟩, ⟨⟨[], rfl⟩, fun i h1 h2 => absurd (show i < (begT (p : Int) f st 8).1 from h2) (by omega), fun i hi => ?_⟩, fun k hk b0 => ⟨rfl, fun i hi => ?_⟩, fun i h1 h2 => absurd (show i < (begT (p : Int) f st 8).1 from h2) (by omega), ⟨Nat.le_refl _, b2⟩, fun i hi => absurd (show i < 0 from hi) (Nat.not_lt_zero _), ?_⟩
  · show cq _ (cf (f a) m) (pc (oneL 1) m (f a) - sm (fun k => pc [] m (f k)) 8)
    rw [pc_one, sm_0 (fun j _ => pc_nil m (f j))]
    exact cq.eq (by omega)
  · obtain ⟨k, a1, a2, a3⟩ := b1 i hi
    show cq _ (cf ((begT (p : Int) f st 8).2 i).1 m) (pc ((begT (p : Int) f st 8).2 i).2.1 m (f a) - sm (fun k => pc (((begT (p : Int) f st 8).2 i).2.2 k) m (f k)) 8)
    rw [a3]
    show cq _ (cf (f k) m) (pc [] m (f a) - sm (fun j => pc (if j = k then oneL (ngP (p : Int) 1) else []) m (f j)) 8)
    rw [pc_nil, sm_pick (g := fun j => pc (if j = k then oneL (ngP (p : Int) 1) else []) m (f j)) (l := k) a1 (fun j _ hjk => by show pc (if j = k then _ else _) m (f j) = 0; rw [if_neg hjk]; exact pc_nil m _)]
    show cq _ (cf (f k) m) (0 - pc (if k = k then oneL (ngP (p : Int) 1) else []) m (f k))
    rw [if_pos rfl, pc_one]
    have h1 := (ngP_cq (p := (p : Int)) (x := 1)).mu (cf (f k) m)
    refine cq.tr ?_ (cq.rf.su ((cq.eq (Int.mul_comm _ _)).tr h1)).sy
    exact cq.eq (by omega)
  · obtain ⟨k, a1, a2, a3⟩ := b1 i hi
    show ((begT (p : Int) f st 8).2 i).2.1 = []
    rw [a3]
  · obtain ⟨j, a1, a2, a3⟩ := b1 i hi
    show ((begT (p : Int) f st 8).2 i).2.2 k = []
    rw [a3]
    exact if_neg (fun e => by rw [e, a2] at b0; omega)
  · show sm (fun i => (0 : Int)) 0 + _ = _
    rw [sm]
    exact Int.zero_add _
theorem DInv.all {p : Nat} {nv : Int} {w : Nat → Int} {f : Nat → List Tm} {st : Int} {a nb : Nat} (hp : isP p) (hp2 : (p : Int) ≤ 32749) (hw : wtOK w) : ∀ (k : Nat) (s d : Dv), DInv p nv w f st a nb s → DivR (p : Int) k s (some d) → DInv p nv w f st a nb d ∧ bestD d.2.2.1 d.2.2.2.1.1 d.2.1 = -1
  | 0, _, _, _, h => by cases h
  | k + 1, s, d, hi, h => by
    by_cases c : bestD s.2.2.1 s.2.2.2.1.1 s.2.1 = -1
    · have := h.1 c
      rw [Option.some.inj this]
      exact ⟨hi, c⟩
    · rcases Classical.em (badD s (bestD s.2.2.1 s.2.2.2.1.1 s.2.1).toNat ∨ ¬ fitE (nowD (p : Int) s.2.2.2.1 (s.2.2.1 (bestD s.2.2.1 s.2.2.2.1.1 s.2.1).toNat))) with c2 | c2
      · cases (h.2 c).1 c2
      · obtain ⟨hn, j, ej, hj, hj0, hd⟩ := bestD_r c
        have hr := (h.2 c).2 c2
        rw [ej, Int.toNat_natCast] at hr c2
        exact DInv.all hp hp2 hw k _ d (hi.step hp hp2 hw hn hj hj0 hd (fun q => c2 (Or.inl q)) (Classical.byContradiction fun q => c2 (Or.inr q))) hr
