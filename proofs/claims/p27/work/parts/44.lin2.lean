/-! ===== a row more; columns and keys ===== -/
theorem dvm {p x : Int} (k : Int) (h : p ∣ x) : p ∣ k * x := Int.dvd_trans h ⟨k, Int.mul_comm k x⟩
theorem ech_ins {p : Int} {W : Nat} {K : Nat → Prop} {Rw Rw2 : Nat → Vc} {U : Vc → Prop} {x z : Vc} {i : Int} {c : Nat} (h : EchU p W K Rw U) (hc : c < W) (hk : ¬ K c) (hz : U (fun j => x j - z j)) (h0 : ∀ j, j < c → p ∣ z j) (hi : p ∣ i * z c - 1) (hr : ∀ j, j < W → p ∣ Rw2 c j - i * z j) (ho : ∀ l, l ≠ c → Rw2 l = Rw l) :
    ∃ U2, EchU p W (fun l => K l ∨ l = c) Rw2 U2 ∧ (∀ y, U y → U2 y) ∧ U2 x ∧ ∀ V, Sub p W V → (∀ y, U y → V y) → V x → ∀ y, U2 y → V y := by
  have hin : ∀ y, U y → Spn p W (rws W (fun l => K l ∨ l = c) Rw2) y := by
    intro y hy
    refine spn_le spn_sub (fun t ht => ?_) ((h.2 y).mp hy)
    obtain ⟨l, hl, hkl, e⟩ := ht
    have hlc : l ≠ c := fun q => hk (q ▸ hkl)
    exact spn_in ⟨l, hl, Or.inl hkl, by rw [e, ho l hlc]⟩
  have hS : Sub p W (Spn p W (rws W (fun l => K l ∨ l = c) Rw2)) := spn_sub
  refine ⟨_, ⟨fun l hl hkl => ?_, fun _ => Iff.rfl⟩, hin, ?_, fun V hV hUV hVx y hy => ?_⟩
  · by_cases hlc : l = c
    · subst hlc
      refine ⟨?_, fun j hj => ?_⟩
      · have := Int.dvd_add (hr l hl) hi
        rw [show Rw2 l l - i * z l + (i * z l - 1) = Rw2 l l - 1 by omega] at this
        exact this
      · have := Int.dvd_add (hr j (by omega)) (dvm i (h0 j hj))
        rw [Int.sub_add_cancel] at this
        exact this
    · rw [ho l hlc]
      exact h.1 l hl (hkl.resolve_right hlc)
  · have hrow : Spn p W (rws W (fun l => K l ∨ l = c) Rw2) (Rw2 c) := spn_in ⟨c, hc, Or.inr rfl, rfl⟩
    have h1 := hS.2.2.1 (z c) _ hrow
    have h2 := hS.2.1 _ _ (hin _ hz) h1
    refine hS.2.2.2 _ _ (fun j hj => emq.mpr ?_) h2
    show p ∣ x j - z j + z c * Rw2 c j - x j
    have h3 := dvm (z c) (hr j hj)
    have h4 := dvm (z j) hi
    have h5 := Int.dvd_add h3 h4
    rw [Int.mul_sub, Int.mul_sub, Int.mul_one, show z c * (i * z j) = z j * (i * z c) by rw [Int.mul_left_comm, Int.mul_left_comm (z j), Int.mul_comm (z c)]] at h5
    rw [show x j - z j + z c * Rw2 c j - x j = z c * Rw2 c j - z j * (i * z c) + (z j * (i * z c) - z j) by omega]
    exact h5
  · refine spn_le hV (fun t ht => ?_) hy
    obtain ⟨l, hl, hkl, e⟩ := ht
    by_cases hlc : l = c
    · subst hlc
      have h1 := hV.sub hVx (hUV _ hz)
      have e1 : (fun j => x j - (x j - z j)) = z := funext fun j => by omega
      rw [e1] at h1
      have h2 := hV.2.2.1 i _ h1
      rw [e]
      exact hV.2.2.2 _ _ (fun j hj => (emq.mpr (hr j hj)).symm) h2
    · rw [e, ho l hlc]
      exact hUV _ ((h.2 _).mpr (spn_in ⟨l, hl, hkl.resolve_right hlc, rfl⟩))
/-- nothing stands yet -/
theorem ech_nil {p : Int} {W : Nat} {K : Nat → Prop} {Rw : Nat → Vc} (hK : ∀ l, l < W → ¬ K l) : EchU p W K Rw (fun x => ∀ c, c < W → p ∣ x c) := by
  refine ⟨fun l hl hk => absurd hk (hK l hl), fun x => ⟨fun hx => ?_, fun hx => ?_⟩⟩
  · have hS : Sub p W (Spn p W (rws W K Rw)) := spn_sub
    exact hS.2.2.2 _ _ (fun c hc => by show (0 : Int) % p = x c % p; rw [emz.mpr (hx c hc)]; exact Int.zero_emod p) hS.1
  · have hU : Sub p W (fun x => ∀ c, c < W → p ∣ x c) := ⟨fun _ _ => Int.dvd_zero _, fun x y hx hy c hc => Int.dvd_add (hx c hc) (hy c hc), fun a x hx c hc => dvm a (hx c hc), fun x y hc hx c hcw => by
      have := Int.dvd_sub (hx c hcw) (emq.mp (hc c hcw))
      rw [show x c - (x c - y c) = y c by omega] at this
      exact this⟩
    exact spn_le hU (fun y hy => by obtain ⟨l, hl, hk, -⟩ := hy; exact absurd hk (hK l hl)) hx
def vecM (M : List Int) (φ : Int → Int) : Vc := fun c => φ (M.getD c 0)
def ext (M : List Int) (x : Vc) (k : Int) : Int := if k ∈ M then x (M.idxOf k) else 0
def mulv (M : List Int) (m : Int) (x : Vc) : Vc := fun c => ext M x (M.getD c 0 - m + 262143)
def shf (m : Int) (φ : Int → Int) : Int → Int := fun k => φ (k - m + 262143)
theorem ext_z (M : List Int) (k : Int) : ext M (fun _ => 0) k = 0 := by
  unfold ext
  by_cases q : k ∈ M
  · rw [if_pos q]
  · rw [if_neg q]
theorem ext_a (M : List Int) (x y : Vc) (k : Int) : ext M (fun c => x c + y c) k = ext M x k + ext M y k := by
  unfold ext
  by_cases q : k ∈ M
  · rw [if_pos q, if_pos q, if_pos q]
  · rw [if_neg q, if_neg q, if_neg q]; rfl
theorem ext_m (M : List Int) (a : Int) (x : Vc) (k : Int) : ext M (fun c => a * x c) k = a * ext M x k := by
  unfold ext
  by_cases q : k ∈ M
  · rw [if_pos q, if_pos q]
  · rw [if_neg q, if_neg q, Int.mul_zero]
theorem ext_sub {p : Int} {M : List Int} {m : Int} {U : Vc → Prop} (h : Sub p M.length U) : Sub p M.length (fun x => U (mulv M m x)) := by
  refine ⟨?_, fun x y hx hy => ?_, fun a x hx => ?_, fun x y hc hx => ?_⟩
  · have e : mulv M m (fun _ => 0) = fun _ => 0 := funext fun c => ext_z _ _
    show U (mulv M m (fun _ => 0)); rw [e]; exact h.1
  · have e : mulv M m (fun c => x c + y c) = fun c => mulv M m x c + mulv M m y c := funext fun c => ext_a _ _ _ _
    show U (mulv M m (fun c => x c + y c)); rw [e]; exact h.2.1 _ _ hx hy
  · have e : mulv M m (fun c => a * x c) = fun c => a * mulv M m x c := funext fun c => ext_m _ _ _ _
    show U (mulv M m (fun c => a * x c)); rw [e]; exact h.2.2.1 _ _ hx
  · refine h.2.2.2 _ _ (fun c _ => ?_) hx
    unfold mulv ext
    by_cases q : M.getD c 0 - m + 262143 ∈ M
    · rw [if_pos q, if_pos q]; exact hc _ (List.idxOf_lt_length_of_mem q)
    · rw [if_neg q, if_neg q]
/-- products of keys -/
theorem mul_key {w : Nat → Int} {t m : Int} (ht : gk w t) (hm : gk w m) (hx : exx t + exx m < 64) (hy : exy t + exy m < 64) (hz : exz t + exz m < 64) :
    gk w (t + m - 262143) ∧ exx (t + m - 262143) = exx t + exx m ∧ exy (t + m - 262143) = exy t + exy m ∧ exz (t + m - 262143) = exz t + exz m ∧ dg (t + m - 262143) = dg t + dg m := by
  have rt := ex_r t
  have rm := ex_r m
  have e := key_add (w := w) (x := exx t) (y := exy t) (z := exz t) (a := exx m) (b := exy m) (c := exz m)
  rw [← key_gk ht, ← key_gk hm] at e
  rw [e]
  refine ⟨gk_key (by omega) (by omega) (by omega), ?_, ?_, ?_, ?_⟩
  · unfold key; rw [exx_pk (by omega) (by omega) (by omega)]
  · unfold key; rw [exy_pk (by omega) (by omega) (by omega)]
  · unfold key; rw [exz_pk (by omega) (by omega) (by omega)]
  · have h1 : dg t = dgw w t := ht
    have h2 : dg m = dgw w m := hm
    unfold key; rw [dg_pk (by omega) (by omega) (by omega), h1, h2]
    unfold dgw
    rw [Int.add_mul, Int.add_mul, Int.add_mul]
    omega
theorem dg_nn {w : Nat → Int} {t : Int} (hw : wtOK w) (h : gk w t) : 0 ≤ dg t := by
  have r := ex_r t
  have h1 : dg t = dgw w t := h
  have m0 := mul4 (x := exx t) (by omega) (hw 0 (by omega))
  have m1 := mul4 (x := exy t) (by omega) (hw 1 (by omega))
  have m2 := mul4 (x := exz t) (by omega) (hw 2 (by omega))
  rw [h1]; unfold dgw; omega
theorem mem_of {n : Int} {w : Nat → Int} {t : Int} {D : Nat} (hw : wtOK w) (h : gk w t) (hv : inV n t) (hd : dg t < (D : Int)) : t ∈ ml n w D := by
  have h0 := dg_nn hw h
  exact mem_ml.mpr ⟨(dg t).toNat, by omega, mdeg_all hw h (by omega) hv.1 hv.2⟩
theorem of_mem {n : Int} {w : Nat → Int} {t : Int} {D : Nat} (hD : D < 60) (h : t ∈ ml n w D) : gk w t ∧ inV n t ∧ 0 ≤ dg t ∧ dg t < (D : Int) ∧ exx t < (D : Int) ∧ exy t < (D : Int) ∧ exz t < (D : Int) := by
  obtain ⟨d, hd, hm⟩ := mem_ml.mp h
  have hh := mdeg_r (by omega) hm
  exact ⟨hh.1, ⟨hh.2.2.2.2.2.1, hh.2.2.2.2.2.2.1⟩, by omega, by omega, by omega, by omega, by omega⟩

