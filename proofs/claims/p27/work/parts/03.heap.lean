/-! ===== THE WALK: jumps on numbers, fields, arrays ===== -/
section HP
variable {G : Gl} {μ : MB} {pc pc2 : Nat} {ls ls2 : Lc} {st st2 : List PV} {S S2 : Sh} {I I2 : MI} {R R2 : MR} {Q : PQ}
theorem e_icmp_eq {x y off : Int} {tgt : Nat} (hd : decode (mC μ) pc = .ok (.if_icmp .eq off, 3)) (ht : (pc : Int) + off = (tgt : Int)) (kt : x = y → E G μ tgt ls st S I R Q) (kf : ¬ (x = y) → E G μ (pc + 3) ls st S I R Q) : E G μ pc ls (vI y :: vI x :: st) S I R Q := by
  by_cases hxy : x = y
  · refine e_go (fun _ _ h => vok_tl (vok_tl h)) (fun p l e Rm s m args below meth c Hm locs cells slots lsM Z _ _ _ o4 hC hx hb hF kk => ?_) (kt hxy)
    have hx1 : InR x := vok_hd (vok_tl o4)
    have hy1 : InR y := vok_hd o4
    exact lv_icmp_eq hx hb hd ht (fun _ => kk) (fun h => absurd ((i_eq hx1 hy1).mpr hxy) h)
  · refine e_go (fun _ _ h => vok_tl (vok_tl h)) (fun p l e Rm s m args below meth c Hm locs cells slots lsM Z _ _ _ o4 hC hx hb hF kk => ?_) (kf hxy)
    have hx1 : InR x := vok_hd (vok_tl o4)
    have hy1 : InR y := vok_hd o4
    exact lv_icmp_eq hx hb hd ht (fun h => absurd ((i_eq hx1 hy1).mp h) hxy) (fun _ => kk)
theorem e_icmp_ne {x y off : Int} {tgt : Nat} (hd : decode (mC μ) pc = .ok (.if_icmp .ne off, 3)) (ht : (pc : Int) + off = (tgt : Int)) (kt : x ≠ y → E G μ tgt ls st S I R Q) (kf : ¬ (x ≠ y) → E G μ (pc + 3) ls st S I R Q) : E G μ pc ls (vI y :: vI x :: st) S I R Q := by
  by_cases hxy : x ≠ y
  · refine e_go (fun _ _ h => vok_tl (vok_tl h)) (fun p l e Rm s m args below meth c Hm locs cells slots lsM Z _ _ _ o4 hC hx hb hF kk => ?_) (kt hxy)
    have hx1 : InR x := vok_hd (vok_tl o4)
    have hy1 : InR y := vok_hd o4
    exact lv_icmp_ne hx hb hd ht (fun _ => kk) (fun h => absurd ((i_eq hx1 hy1).mp h) hxy)
  · refine e_go (fun _ _ h => vok_tl (vok_tl h)) (fun p l e Rm s m args below meth c Hm locs cells slots lsM Z _ _ _ o4 hC hx hb hF kk => ?_) (kf hxy)
    have hx1 : InR x := vok_hd (vok_tl o4)
    have hy1 : InR y := vok_hd o4
    exact lv_icmp_ne hx hb hd ht (fun h => absurd ((not_congr (i_eq hx1 hy1)).mp h) hxy) (fun _ => kk)
theorem e_icmp_lt {x y off : Int} {tgt : Nat} (hd : decode (mC μ) pc = .ok (.if_icmp .lt off, 3)) (ht : (pc : Int) + off = (tgt : Int)) (kt : x < y → E G μ tgt ls st S I R Q) (kf : ¬ (x < y) → E G μ (pc + 3) ls st S I R Q) : E G μ pc ls (vI y :: vI x :: st) S I R Q := by
  by_cases hxy : x < y
  · refine e_go (fun _ _ h => vok_tl (vok_tl h)) (fun p l e Rm s m args below meth c Hm locs cells slots lsM Z _ _ _ o4 hC hx hb hF kk => ?_) (kt hxy)
    have hx1 : InR x := vok_hd (vok_tl o4)
    have hy1 : InR y := vok_hd o4
    exact lv_icmp_lt hx hb hd ht (fun _ => kk) (fun h => absurd ((i_lt hx1 hy1).mpr hxy) h)
  · refine e_go (fun _ _ h => vok_tl (vok_tl h)) (fun p l e Rm s m args below meth c Hm locs cells slots lsM Z _ _ _ o4 hC hx hb hF kk => ?_) (kf hxy)
    have hx1 : InR x := vok_hd (vok_tl o4)
    have hy1 : InR y := vok_hd o4
    exact lv_icmp_lt hx hb hd ht (fun h => absurd ((i_lt hx1 hy1).mp h) hxy) (fun _ => kk)
theorem e_icmp_ge {x y off : Int} {tgt : Nat} (hd : decode (mC μ) pc = .ok (.if_icmp .ge off, 3)) (ht : (pc : Int) + off = (tgt : Int)) (kt : y ≤ x → E G μ tgt ls st S I R Q) (kf : ¬ (y ≤ x) → E G μ (pc + 3) ls st S I R Q) : E G μ pc ls (vI y :: vI x :: st) S I R Q := by
  by_cases hxy : y ≤ x
  · refine e_go (fun _ _ h => vok_tl (vok_tl h)) (fun p l e Rm s m args below meth c Hm locs cells slots lsM Z _ _ _ o4 hC hx hb hF kk => ?_) (kt hxy)
    have hx1 : InR x := vok_hd (vok_tl o4)
    have hy1 : InR y := vok_hd o4
    exact lv_icmp_ge hx hb hd ht (fun _ => kk) (fun h => absurd ((i_le hy1 hx1).mpr hxy) h)
  · refine e_go (fun _ _ h => vok_tl (vok_tl h)) (fun p l e Rm s m args below meth c Hm locs cells slots lsM Z _ _ _ o4 hC hx hb hF kk => ?_) (kf hxy)
    have hx1 : InR x := vok_hd (vok_tl o4)
    have hy1 : InR y := vok_hd o4
    exact lv_icmp_ge hx hb hd ht (fun h => absurd ((i_le hy1 hx1).mp h) hxy) (fun _ => kk)
theorem e_icmp_gt {x y off : Int} {tgt : Nat} (hd : decode (mC μ) pc = .ok (.if_icmp .gt off, 3)) (ht : (pc : Int) + off = (tgt : Int)) (kt : y < x → E G μ tgt ls st S I R Q) (kf : ¬ (y < x) → E G μ (pc + 3) ls st S I R Q) : E G μ pc ls (vI y :: vI x :: st) S I R Q := by
  by_cases hxy : y < x
  · refine e_go (fun _ _ h => vok_tl (vok_tl h)) (fun p l e Rm s m args below meth c Hm locs cells slots lsM Z _ _ _ o4 hC hx hb hF kk => ?_) (kt hxy)
    have hx1 : InR x := vok_hd (vok_tl o4)
    have hy1 : InR y := vok_hd o4
    exact lv_icmp_gt hx hb hd ht (fun _ => kk) (fun h => absurd ((i_lt hy1 hx1).mpr hxy) h)
  · refine e_go (fun _ _ h => vok_tl (vok_tl h)) (fun p l e Rm s m args below meth c Hm locs cells slots lsM Z _ _ _ o4 hC hx hb hF kk => ?_) (kf hxy)
    have hx1 : InR x := vok_hd (vok_tl o4)
    have hy1 : InR y := vok_hd o4
    exact lv_icmp_gt hx hb hd ht (fun h => absurd ((i_lt hy1 hx1).mp h) hxy) (fun _ => kk)
theorem e_icmp_le {x y off : Int} {tgt : Nat} (hd : decode (mC μ) pc = .ok (.if_icmp .le off, 3)) (ht : (pc : Int) + off = (tgt : Int)) (kt : x ≤ y → E G μ tgt ls st S I R Q) (kf : ¬ (x ≤ y) → E G μ (pc + 3) ls st S I R Q) : E G μ pc ls (vI y :: vI x :: st) S I R Q := by
  by_cases hxy : x ≤ y
  · refine e_go (fun _ _ h => vok_tl (vok_tl h)) (fun p l e Rm s m args below meth c Hm locs cells slots lsM Z _ _ _ o4 hC hx hb hF kk => ?_) (kt hxy)
    have hx1 : InR x := vok_hd (vok_tl o4)
    have hy1 : InR y := vok_hd o4
    exact lv_icmp_le hx hb hd ht (fun _ => kk) (fun h => absurd ((i_le hx1 hy1).mpr hxy) h)
  · refine e_go (fun _ _ h => vok_tl (vok_tl h)) (fun p l e Rm s m args below meth c Hm locs cells slots lsM Z _ _ _ o4 hC hx hb hF kk => ?_) (kf hxy)
    have hx1 : InR x := vok_hd (vok_tl o4)
    have hy1 : InR y := vok_hd o4
    exact lv_icmp_le hx hb hd ht (fun h => absurd ((i_le hx1 hy1).mp h) hxy) (fun _ => kk)
theorem e_if_eq {x off : Int} {tgt : Nat} (hd : decode (mC μ) pc = .ok (.ifCond .eq off, 3)) (ht : (pc : Int) + off = (tgt : Int)) (kt : x = 0 → E G μ tgt ls st S I R Q) (kf : ¬ (x = 0) → E G μ (pc + 3) ls st S I R Q) : E G μ pc ls (vI x :: st) S I R Q := by
  by_cases hxy : x = 0
  · refine e_go (fun _ _ h => vok_tl h) (fun p l e Rm s m args below meth c Hm locs cells slots lsM Z _ _ _ o4 hC hx hb hF kk => ?_) (kt hxy)
    have hx1 : InR x := vok_hd o4
    exact lv_if_eq hx hb hd ht (fun _ => kk) (fun h => absurd ((i_eq hx1 InR0).mpr hxy) h)
  · refine e_go (fun _ _ h => vok_tl h) (fun p l e Rm s m args below meth c Hm locs cells slots lsM Z _ _ _ o4 hC hx hb hF kk => ?_) (kf hxy)
    have hx1 : InR x := vok_hd o4
    exact lv_if_eq hx hb hd ht (fun h => absurd ((i_eq hx1 InR0).mp h) hxy) (fun _ => kk)
theorem e_if_ne {x off : Int} {tgt : Nat} (hd : decode (mC μ) pc = .ok (.ifCond .ne off, 3)) (ht : (pc : Int) + off = (tgt : Int)) (kt : x ≠ 0 → E G μ tgt ls st S I R Q) (kf : ¬ (x ≠ 0) → E G μ (pc + 3) ls st S I R Q) : E G μ pc ls (vI x :: st) S I R Q := by
  by_cases hxy : x ≠ 0
  · refine e_go (fun _ _ h => vok_tl h) (fun p l e Rm s m args below meth c Hm locs cells slots lsM Z _ _ _ o4 hC hx hb hF kk => ?_) (kt hxy)
    have hx1 : InR x := vok_hd o4
    exact lv_if_ne hx hb hd ht (fun _ => kk) (fun h => absurd ((i_eq hx1 InR0).mp h) hxy)
  · refine e_go (fun _ _ h => vok_tl h) (fun p l e Rm s m args below meth c Hm locs cells slots lsM Z _ _ _ o4 hC hx hb hF kk => ?_) (kf hxy)
    have hx1 : InR x := vok_hd o4
    exact lv_if_ne hx hb hd ht (fun h => absurd ((not_congr (i_eq hx1 InR0)).mp h) hxy) (fun _ => kk)
theorem e_if_lt {x off : Int} {tgt : Nat} (hd : decode (mC μ) pc = .ok (.ifCond .lt off, 3)) (ht : (pc : Int) + off = (tgt : Int)) (kt : x < 0 → E G μ tgt ls st S I R Q) (kf : ¬ (x < 0) → E G μ (pc + 3) ls st S I R Q) : E G μ pc ls (vI x :: st) S I R Q := by
  by_cases hxy : x < 0
  · refine e_go (fun _ _ h => vok_tl h) (fun p l e Rm s m args below meth c Hm locs cells slots lsM Z _ _ _ o4 hC hx hb hF kk => ?_) (kt hxy)
    have hx1 : InR x := vok_hd o4
    exact lv_if_lt hx hb hd ht (fun _ => kk) (fun h => absurd ((i_lt hx1 InR0).mpr hxy) h)
  · refine e_go (fun _ _ h => vok_tl h) (fun p l e Rm s m args below meth c Hm locs cells slots lsM Z _ _ _ o4 hC hx hb hF kk => ?_) (kf hxy)
    have hx1 : InR x := vok_hd o4
    exact lv_if_lt hx hb hd ht (fun h => absurd ((i_lt hx1 InR0).mp h) hxy) (fun _ => kk)
theorem e_if_ge {x off : Int} {tgt : Nat} (hd : decode (mC μ) pc = .ok (.ifCond .ge off, 3)) (ht : (pc : Int) + off = (tgt : Int)) (kt : 0 ≤ x → E G μ tgt ls st S I R Q) (kf : ¬ (0 ≤ x) → E G μ (pc + 3) ls st S I R Q) : E G μ pc ls (vI x :: st) S I R Q := by
  by_cases hxy : 0 ≤ x
  · refine e_go (fun _ _ h => vok_tl h) (fun p l e Rm s m args below meth c Hm locs cells slots lsM Z _ _ _ o4 hC hx hb hF kk => ?_) (kt hxy)
    have hx1 : InR x := vok_hd o4
    exact lv_if_ge hx hb hd ht (fun _ => kk) (fun h => absurd ((i_le InR0 hx1).mpr hxy) h)
  · refine e_go (fun _ _ h => vok_tl h) (fun p l e Rm s m args below meth c Hm locs cells slots lsM Z _ _ _ o4 hC hx hb hF kk => ?_) (kf hxy)
    have hx1 : InR x := vok_hd o4
    exact lv_if_ge hx hb hd ht (fun h => absurd ((i_le InR0 hx1).mp h) hxy) (fun _ => kk)
theorem e_if_gt {x off : Int} {tgt : Nat} (hd : decode (mC μ) pc = .ok (.ifCond .gt off, 3)) (ht : (pc : Int) + off = (tgt : Int)) (kt : 0 < x → E G μ tgt ls st S I R Q) (kf : ¬ (0 < x) → E G μ (pc + 3) ls st S I R Q) : E G μ pc ls (vI x :: st) S I R Q := by
  by_cases hxy : 0 < x
  · refine e_go (fun _ _ h => vok_tl h) (fun p l e Rm s m args below meth c Hm locs cells slots lsM Z _ _ _ o4 hC hx hb hF kk => ?_) (kt hxy)
    have hx1 : InR x := vok_hd o4
    exact lv_if_gt hx hb hd ht (fun _ => kk) (fun h => absurd ((i_lt InR0 hx1).mpr hxy) h)
  · refine e_go (fun _ _ h => vok_tl h) (fun p l e Rm s m args below meth c Hm locs cells slots lsM Z _ _ _ o4 hC hx hb hF kk => ?_) (kf hxy)
    have hx1 : InR x := vok_hd o4
    exact lv_if_gt hx hb hd ht (fun h => absurd ((i_lt InR0 hx1).mp h) hxy) (fun _ => kk)
theorem e_if_le {x off : Int} {tgt : Nat} (hd : decode (mC μ) pc = .ok (.ifCond .le off, 3)) (ht : (pc : Int) + off = (tgt : Int)) (kt : x ≤ 0 → E G μ tgt ls st S I R Q) (kf : ¬ (x ≤ 0) → E G μ (pc + 3) ls st S I R Q) : E G μ pc ls (vI x :: st) S I R Q := by
  by_cases hxy : x ≤ 0
  · refine e_go (fun _ _ h => vok_tl h) (fun p l e Rm s m args below meth c Hm locs cells slots lsM Z _ _ _ o4 hC hx hb hF kk => ?_) (kt hxy)
    have hx1 : InR x := vok_hd o4
    exact lv_if_le hx hb hd ht (fun _ => kk) (fun h => absurd ((i_le hx1 InR0).mpr hxy) h)
  · refine e_go (fun _ _ h => vok_tl h) (fun p l e Rm s m args below meth c Hm locs cells slots lsM Z _ _ _ o4 hC hx hb hF kk => ?_) (kf hxy)
    have hx1 : InR x := vok_hd o4
    exact lv_if_le hx hb hd ht (fun h => absurd ((i_le hx1 InR0).mp h) hxy) (fun _ => kk)
theorem e_tabOut {dflt lo hi : Int} {offs : Array Int} {len : Nat} {x : Int} {tgt : Nat} (hd : decode (mC μ) pc = .ok (.tableswitch dflt lo hi offs, len)) (h : x < lo ∨ hi < x) (ht : (pc : Int) + dflt = (tgt : Int)) (k : E G μ tgt ls st S I R Q) : E G μ pc ls (vI x :: st) S I R Q :=
  e_go (fun _ _ h => vok_tl h) (fun p l e Rm s m args below meth c Hm locs cells slots lsM Z _ _ _ o4 hC hx hb hF kk => lv_tableOut hx hb hd (by rw [o32 (vok_hd o4)]; exact h) ht kk) k
theorem e_tabIn {dflt lo hi : Int} {offs : Array Int} {len : Nat} {x off : Int} {tgt : Nat} (hd : decode (mC μ) pc = .ok (.tableswitch dflt lo hi offs, len)) (y : Int) (e : x = y) (h : lo ≤ y ∧ y ≤ hi) (ho : offs[(y - lo).toNat]? = some off) (ht : (pc : Int) + off = (tgt : Int)) (k : E G μ tgt ls st S I R Q) : E G μ pc ls (vI x :: st) S I R Q := by
  subst e
  exact e_go (fun _ _ h => vok_tl h) (fun p l e Rm s m args below meth c Hm locs cells slots lsM Z _ _ _ o4 hC hx hb hF kk => lv_tableIn hx hb hd (by rw [o32 (vok_hd o4)]; omega) (by rw [o32 (vok_hd o4)]; omega) (by rw [o32 (vok_hd o4)]; exact ho) ht kk) k
theorem e_ifnull {r : Nat} {off : Int} {tgt : Nat} (hd : decode (mC μ) pc = .ok (.ifnull off, 3)) (ht : (pc : Int) + off = (tgt : Int)) (kt : r = 0 → E G μ tgt ls st S I R Q) (kf : ¬ r = 0 → E G μ (pc + 3) ls st S I R Q) : E G μ pc ls (vR r :: st) S I R Q := by
  cases r with
  | zero => exact e_go (fun _ _ h => vok_tl h) (fun p l e Rm s m args below meth c Hm locs cells slots lsM Z _ _ _ o4 hC hx hb hF kk => lv_ifnullN hx hb hd ht kk) (kt rfl)
  | succ r => exact e_go (fun _ _ h => vok_tl h) (fun p l e Rm s m args below meth c Hm locs cells slots lsM Z _ _ _ o4 hC hx hb hF kk => lv_ifnull hx hb hd kk) (kf (by omega))
theorem e_ifnonnull {r : Nat} {off : Int} {tgt : Nat} (hd : decode (mC μ) pc = .ok (.ifnonnull off, 3)) (ht : (pc : Int) + off = (tgt : Int)) (kt : ¬ r = 0 → E G μ tgt ls st S I R Q) (kf : r = 0 → E G μ (pc + 3) ls st S I R Q) : E G μ pc ls (vR r :: st) S I R Q := by
  cases r with
  | zero => exact e_go (fun _ _ h => vok_tl h) (fun p l e Rm s m args below meth c Hm locs cells slots lsM Z _ _ _ o4 hC hx hb hF kk => lv_ifnonnullN hx hb hd kk) (kf rfl)
  | succ r => exact e_go (fun _ _ h => vok_tl h) (fun p l e Rm s m args below meth c Hm locs cells slots lsM Z _ _ _ o4 hC hx hb hF kk => lv_ifnonnull hx hb hd ht kk) (kt (by omega))
end HP
-- two-step maps
def up1 {α : Type} (f : Nat → α) (k : Nat) (v : α) : Nat → α := fun j => if j = k then v else f j
def up2 {α : Type} (f : Nat → Nat → α) (a k : Nat) (v : α) : Nat → Nat → α := up1 f a (up1 (f a) k v)
theorem up1_s {α : Type} (f : Nat → α) (k : Nat) (v : α) : up1 f k v k = v := if_pos rfl
theorem up1_n {α : Type} {f : Nat → α} {k j : Nat} {v : α} (h : j ≠ k) : up1 f k v j = f j := if_neg h
theorem up2_s {α : Type} (f : Nat → Nat → α) (a k : Nat) (v : α) : up2 f a k v a = up1 (f a) k v := if_pos rfl
theorem up2_n {α : Type} {f : Nat → Nat → α} {a b k : Nat} {v : α} (h : b ≠ a) : up2 f a k v b = f b := if_neg h
theorem up2_ss {α : Type} (f : Nat → Nat → α) (a k : Nat) (v : α) : up2 f a k v a k = v := by rw [up2_s, up1_s]
theorem up2_sn {α : Type} {f : Nat → Nat → α} {a k j : Nat} {v : α} (h : j ≠ k) : up2 f a k v a j = f a j := by rw [up2_s, up1_n h]
-- the classes of the world
def clT (ci : Nat) : u_T := match ci with
  | 0 => TX0 | 1 => TX1 | 2 => TX2 | 3 => TX4 | 4 => TX5 | 5 => TX6 | 6 => TX7 | 7 => TX8 | 8 => TX9 | 9 => TJ0 | _ => TJ4
def clC (ci : Nat) : String := match ci with
  | 0 => RX0 | 1 => RX1 | 2 => RX2 | 3 => RX4 | 4 => RX5 | 5 => RX6 | 6 => RX7 | 7 => RX8 | 8 => RX9 | 9 => RJ0 | _ => RJ4
def clOK (ci : Nat) : Prop := vwCl[ci]? = some (clC ci, clT ci, clN ci) ∧ (∀ w ∈ u_ws (clC ci) (clT ci) (clN ci), w ∈ lw_t2) ∧ (∀ k, k < clN ci → parseFieldDescriptor (clT ci k).2.2.1 = some (clTy ci k)) ∧ (∀ a, a < clN ci → ∀ b, b < clN ci → a ≠ b → (clT ci a).2.1 ≠ (clT ci b).2.1)
theorem clOK_0 : clOK 0 := ⟨rfl, by decide +kernel, tyX0_ok, nmX0⟩
theorem clOK_1 : clOK 1 := ⟨rfl, by decide +kernel, tyX1_ok, nmX1⟩
theorem clOK_2 : clOK 2 := ⟨rfl, by decide +kernel, tyX2_ok, nmX2⟩
theorem clOK_3 : clOK 3 := ⟨rfl, by decide +kernel, tyX4_ok, nmX4⟩
theorem clOK_4 : clOK 4 := ⟨rfl, by decide +kernel, tyX5_ok, nmX5⟩
theorem clOK_5 : clOK 5 := ⟨rfl, by decide +kernel, tyX6_ok, nmX6⟩
theorem clOK_6 : clOK 6 := ⟨rfl, by decide +kernel, tyX7_ok, nmX7⟩
theorem clOK_7 : clOK 7 := ⟨rfl, by decide +kernel, tyX8_ok, nmX8⟩
theorem clOK_8 : clOK 8 := ⟨rfl, by decide +kernel, tyX9_ok, nmX9⟩
theorem clOK_9 : clOK 9 := ⟨rfl, by decide +kernel, tyJ0_ok, nmJ0⟩
theorem clOK_10 : clOK 10 := ⟨rfl, by decide +kernel, tyJ4_ok, nmJ4⟩
theorem clOK_all : ∀ ci, ci < 11 → clOK ci
  | 0, _ => clOK_0 | 1, _ => clOK_1 | 2, _ => clOK_2 | 3, _ => clOK_3 | 4, _ => clOK_4 | 5, _ => clOK_5 | 6, _ => clOK_6 | 7, _ => clOK_7 | 8, _ => clOK_8 | 9, _ => clOK_9 | 10, _ => clOK_10
  | n + 11, h => by omega
/-- a place of the pool that names field k of class ci -/
def FLk (own : String) (idx ci k : Nat) : Prop := ci < 11 ∧ k < clN ci ∧ Cond.fieldLink own idx (clT ci k).1 (clT ci k).2.1 (clT ci k).2.2.1 ∈ lw_t2
def tk (ty : FieldType) : Nat := match ty with
  | .int => 0 | .boolean => 0 | .byte => 0 | .long => 1 | .object _ => 2 | .array _ => 2 | _ => 3
theorem irng_of_tk {ty : FieldType} {x : Int} (h : tk ty = 0) (hx : irng ty x) : InR x := by
  cases ty with
  | int => exact hx
  | boolean => rcases hx with rfl | rfl <;> unfold InR <;> omega
  | byte => unfold irng at hx; unfold InR; omega
  | _ => cases h
theorem ety_cls {ci k : Nat} (h : ci < 11) : ety (ci + 1) k = clTy ci k := by
  unfold ety
  rw [if_pos (by omega), Nat.add_sub_cancel]
theorem cellE_cls (G : Gl) {ci : Nat} (h : ci < 11) (len : Nat) (x : Nat → Int) (r : Nat → Nat) : cellE G (ci + 1) len x r = .inr (ci, (List.range (clN ci)).map (fun j => fval G (clTy ci j) (x j) (r j))) := by
  unfold cellE
  rw [if_pos (by omega), Nat.add_sub_cancel]
theorem fvals_at (G : Gl) {ci k : Nat} (h : k < clN ci) (x : Nat → Int) (r : Nat → Nat) : ((List.range (clN ci)).map (fun j => fval G (clTy ci j) (x j) (r j)))[k]? = some (fval G (clTy ci k) (x k) (r k)) := by
  rw [List.getElem?_map, List.getElem?_range h]; rfl
theorem fvals_set (G : Gl) {ci k : Nat} (x x' : Nat → Int) (r r' : Nat → Nat) {v : Value} (hv : v = fval G (clTy ci k) (x' k) (r' k)) (hx : ∀ j, j ≠ k → x' j = x j) (hr : ∀ j, j ≠ k → r' j = r j) :
    ((List.range (clN ci)).map (fun j => fval G (clTy ci j) (x j) (r j))).set k v = (List.range (clN ci)).map (fun j => fval G (clTy ci j) (x' j) (r' j)) := by
  apply List.ext_getElem?
  intro j
  by_cases hj : j = k
  · subst hj
    by_cases hl : j < clN ci
    · rw [List.getElem?_set_self (by simpa using hl), fvals_at G hl, hv]
    · rw [List.getElem?_eq_none (by simp; omega), List.getElem?_eq_none (by simp; omega)]
  · rw [List.getElem?_set_ne (Ne.symm hj)]
    by_cases hl : j < clN ci
    · rw [fvals_at G hl, fvals_at G hl, hx j hj, hr j hj]
    · rw [List.getElem?_eq_none (by simp; omega), List.getElem?_eq_none (by simp; omega)]
theorem tag_in {S : Sh} {a t : Nat} (h : okS S) (ht : sT S a = t + 1) : 1 ≤ a ∧ a < sN S := ⟨(h.2 a (by omega)).1, (h.2 a (by omega)).2.1⟩
theorem okI_up {S : Sh} {I : MI} {a k : Nat} {x : Int} (h : okI S I) (hx : irng (ety (sT S a) k) x) : okI S (up2 I a k x) := by
  intro b j
  by_cases hb : b = a
  · subst hb
    by_cases hj : j = k
    · subst hj; rw [up2_ss]; exact hx
    · rw [up2_sn hj]; exact h b j
  · rw [up2_n hb]; exact h b j
section PV1
variable {p : Program} {l : Launch} {e : Env} {R : Room} {s : State} {m : MethodId} {args : Array Value} {below : List Frame} {meth : Method} {c : Code} {H : Heap} {locs : List Loc} {cells slots : Nat} {Q : State → Prop}
variable {cc : ByteArray} {pc : Nat} {ls : Array Slot} {rest : List Value} {D : va_G} {cl : List vw_C} {A : Nat → Prop} {a : Nat} {tys : List (ClassId × FieldType)} {ws : va_W} {H0 : Heap}
/-- a field is written: the size of the heap stays (the kit's row, with that said) -/
theorem pv_put (hexec : p.tables.exec = Jvm.exec) (hb : c.code = cc) {own C : String} {T : u_T} {N ci index : Nat} {Ts : List Cond} (hts : ∀ w ∈ Ts, w.before args s = true) (hin : ∀ w ∈ u_ws C T N, w ∈ Ts) (ty0 : Nat → FieldType) (hty : ∀ k, k < N → parseFieldDescriptor (T k).2.2.1 = some (ty0 k)) (hnm : ∀ a, a < N → ∀ b, b < N → a ≠ b → (T a).2.1 ≠ (T b).2.1) (hown : s.vm.findClass own = some m.cls) (hK : va_K D cl tys s) (hP : va_P D cl ws H) (hD : va_D A ws) (hS0 : va_S A H0 H locs) (q0 : Nat) {fs : List Value} (he : ws[q0]? = some (a, .inr (ci, fs))) (hc : cl[ci]? = some (C, T, N)) (k : Nat) (hk : k < N) (hlink : (Cond.fieldLink own index (T k).1 (T k).2.1 (T k).2.2.1).before args s = true) (hfin : (T k).2.2.2 = false ∨ ((T k).2.2.2 = true ∧ meth.name = "<init>" ∧ (T k).1 = own)) {ty : FieldType} {v : Value} (hd : parseFieldDescriptor (T k).2.2.1 = some ty) (hn : narrow ty v = v) (hfit : fits ty v = true) (hl : k < fs.length)
    (hdg : decode cc pc = .ok (.putfield index, 3)) (kk : ∀ (H1 : Heap) (locs1 : List Loc), H1.size = H.size → va_P D cl (ws.set q0 (a, .inr (ci, fs.set k v))) H1 → va_S A H0 H1 locs1 → W p l e R s m args below meth c H1 locs1 cells slots Q (F0 m (pc + 3) ls rest)) : W p l e R s m args below meth c H locs cells slots Q (F0 m pc ls (v :: .ref a :: rest)) := by
  have hap := va_apart (own := own) hts hin ty0 hty hnm hK hc
  obtain ⟨r, h1, cell, q1, q2, q3, q4⟩ := hP q0 _ he
  have hr : r = (C, T, N) := Option.some.inj (h1.symm.trans hc)
  subst hr
  obtain ⟨hS, hfc, kC, hkC, hkind⟩ := hK.1 ci _ hc
  obtain ⟨cf, kf, fi, f, hi, hsl⟩ := hS k hk
  have hlay := hts _ (hin _ (u_in_lay hk))
  unfold u_lay at hlay
  have hst := (u_facts hfc hkC (u_lays hts hin hk) hi).1
  rcases hfin with hfin | ⟨hfin, hin2, hdecl⟩
  · rw [if_neg (by rw [hfin]; decide)] at hlay
    have h6 := u_store hfc hkC hkind hlay hi hd hn hfit
    refine W.putK hexec hb (f := f) ⟨hown, hlink, ⟨_, _, _, hi⟩, hst⟩ (by rw [q2]; exact h6) q1 q3 (by rw [hsl]; exact k2_hasslot (q4 k hk)) rfl rfl hdg fun H' e1 e2 e3 => ?_
    rw [hsl] at e1 ⊢
    exact kk H' _ e2 (hP.set hD he ⟨_, hc, t_OB.to (V := updV (vp_V fs) k v) ⟨_, e1, q2, q3, t_set q4 hap hk v⟩ (fun j _ => vp_updV_set hl v j)⟩ e3) (hS0.put e2 e3 (hD.2 q0 _ he))
  · rw [if_pos hfin] at hlay
    have hcf : m.cls = cf := by
      obtain ⟨_, _, c', _, _, _, -, -, hf', -, -, -, hown2, -⟩ := Cond.laysFinal_spec hlay
      have e1 : c' = cf := by have := hi.symm.trans hf'; simp at this; exact this.1.symm
      rw [hdecl] at hown2
      rw [← e1]; exact Option.some.inj (hown.symm.trans hown2)
    have h6 := u_fits hfc hkC hkind (Or.inr hlay) hi hd hn hfit
    refine W.putFinK hexec hb hown hlink hi hst hcf hin2 (by rw [q2]; exact h6) q1 q3 (by rw [hsl]; exact k2_hasslot (q4 k hk)) rfl rfl hdg fun H' e1 e2 e3 => ?_
    rw [hsl] at e1 ⊢
    exact kk H' _ e2 (hP.set hD he ⟨_, hc, t_OB.to (V := updV (vp_V fs) k v) ⟨_, e1, q2, q3, t_set q4 hap hk v⟩ (fun j _ => vp_updV_set hl v j)⟩ e3) (hS0.put e2 e3 (hD.2 q0 _ he))
end PV1
section FL
variable {G : Gl} {μ : MB} {pc pc2 : Nat} {ls ls2 : Lc} {st st2 : List PV} {S S2 : Sh} {I I2 : MI} {R R2 : MR} {Q : PQ} {idx ci f a : Nat}
theorem e_get {v : PV} (hd : decode (mC μ) pc = .ok (.getfield idx, 3)) (hf : FLk (mO μ) idx ci f) (ht : sT S a = ci + 1) (hv : mv G v = fval G (clTy ci f) (I a f) (R a f)) (hok : okI S I → vok v) (k : E G μ (pc + 3) ls (v :: st) S I R Q) : E G μ pc ls (vR a :: st) S I R Q := by
  refine e_go (fun o _ h => vok_cons (hok o) (vok_tl h)) (fun p l e Rm s m args below meth c Hm locs cells slots lsM Z o1 _ _ _ hC hx hb hF kk => ?_) k
  obtain ⟨h1, h2⟩ := tag_in o1 ht
  obtain ⟨hci, hfk, hl⟩ := hf
  obtain ⟨hc, hin, hty, hnm⟩ := clOK_all ci hci
  have hw := wsOf_get G I R h1 h2
  rw [ht, cellE_cls G hci] at hw
  rw [List.map_cons] at kk
  rw [List.map_cons, mv_ref G h1]
  exact va_get (ref := (clT ci f).1) hx hb hC.2.2.2.2.1 hin hC.2.2.2.1 hC.2.2.2.2.2.2.2.2.1 hF.2.1.1 (a - 1) hw hc f hfk (hC.2.2.2.2.1 _ hl) (fun x h => h) (by rw [fvals_at G hfk, ← hv]) hd kk
theorem e_getI (hd : decode (mC μ) pc = .ok (.getfield idx, 3)) (hf : FLk (mO μ) idx ci f) (hk : tk (clTy ci f) = 0) (ht : sT S a = ci + 1) (k : E G μ (pc + 3) ls (vI (I a f) :: st) S I R Q) : E G μ pc ls (vR a :: st) S I R Q := by
  refine e_get (v := vI (I a f)) hd hf ht ?_ (fun o => ?_) k
  · generalize clTy ci f = ty at hk
    cases ty <;> first | rfl | cases hk
  · have := o a f
    rw [ht, ety_cls hf.1] at this
    exact irng_of_tk hk this
theorem e_getL (hd : decode (mC μ) pc = .ok (.getfield idx, 3)) (hf : FLk (mO μ) idx ci f) (hk : clTy ci f = .long) (ht : sT S a = ci + 1) (k : E G μ (pc + 3) ls (vL (I a f) :: st) S I R Q) : E G μ pc ls (vR a :: st) S I R Q := by
  refine e_get (v := vL (I a f)) hd hf ht (by rw [hk]; rfl) (fun o => ?_) k
  have := o a f
  rw [ht, ety_cls hf.1, hk] at this
  exact this
theorem e_getR (hd : decode (mC μ) pc = .ok (.getfield idx, 3)) (hf : FLk (mO μ) idx ci f) (hk : tk (clTy ci f) = 2) (ht : sT S a = ci + 1) (k : E G μ (pc + 3) ls (vR (R a f) :: st) S I R Q) : E G μ pc ls (vR a :: st) S I R Q := by
  refine e_get (v := vR (R a f)) hd hf ht ?_ (fun _ => trivial) k
  generalize clTy ci f = ty at hk
  cases ty <;> first | rfl | cases hk
abbrev FinOK (μ : MB) (ci f : Nat) : Prop := (clT ci f).2.2.2 = false ∨ ((clT ci f).2.2.2 = true ∧ (mY μ).name = "<init>" ∧ (clT ci f).1 = mO μ)
theorem e_put {v : PV} (hd : decode (mC μ) pc = .ok (.putfield idx, 3)) (hf : FLk (mO μ) idx ci f) (hfin : FinOK μ ci f) (ht : sT S a = ci + 1)
    (hI : ∀ b, b ≠ a → I2 b = I b) (hR : ∀ b, b ≠ a → R2 b = R b) (hIa : ∀ j, j ≠ f → I2 a j = I a j) (hRa : ∀ j, j ≠ f → R2 a j = R a j)
    (hv : mv G v = fval G (clTy ci f) (I2 a f) (R2 a f)) (hok : okI S I → vok v → okI S I2) (hn : okI S I → vok v → narrow (clTy ci f) (mv G v) = mv G v ∧ fits (clTy ci f) (mv G v) = true)
    (k : E G μ (pc + 3) ls st S I2 R2 Q) : E G μ pc ls (v :: vR a :: st) S I R Q := by
  refine e_step (Nat.le_refl _) (Nat.le_refl _) (fun o1 o2 o3 o4 => ⟨o1, hok o2 (vok_hd o4), o3, vok_tl (vok_tl o4)⟩) ?_ k
  intro p l e Rm s m args below meth c Hm locs cells slots lsM Z o1 o2 o3 o4 hC hc hs hF kk
  obtain ⟨h1, h2⟩ := tag_in o1 ht
  obtain ⟨hci, hfk, hl⟩ := hf
  obtain ⟨hcl, hin, hty, hnm⟩ := clOK_all ci hci
  have hw := wsOf_get G I R h1 h2
  rw [ht, cellE_cls G hci] at hw
  rw [List.map_cons, List.map_cons, mv_ref G h1]
  have hset := wsOf_set G (S := S) (I := I) (I' := I2) (R := R) (R' := R2) h1 h2 hI hR (e := .inr (ci, (List.range (clN ci)).map (fun j => fval G (clTy ci j) (I2 a j) (R2 a j)))) (by rw [ht, cellE_cls G hci])
  obtain ⟨n1, n2⟩ := hn o2 (vok_hd o4)
  have hfs := fvals_set G (ci := ci) (k := f) (I a) (I2 a) (R a) (R2 a) hv hIa hRa
  refine pv_put hC.1 hC.2.1 hC.2.2.2.2.1 hin (clTy ci) hty hnm hC.2.2.2.1 hC.2.2.2.2.2.2.2.2.1 hF.2.1.1 (wsOf_D G S I R) hF.2.2 (a - 1) hw hcl f hfk (hC.2.2.2.2.1 _ hl) ?_ (hty f hfk) n1 n2 (by simpa using hfk) hd (fun H1 locs1 g3 g1 g2 => ?_)
  · rcases hfin with h | ⟨q1, q2, q3⟩
    · exact Or.inl h
    · exact Or.inr ⟨q1, hC.2.2.2.2.2.2.2.1 q2, q3⟩
  · rw [hfs, hset] at g1
    have := kk H1 locs1 lsM ⟨hF.1, ⟨g1, g3.trans hF.2.1.2⟩, g2⟩
    simpa using this
theorem e_putI {x : Int} (hd : decode (mC μ) pc = .ok (.putfield idx, 3)) (hf : FLk (mO μ) idx ci f) (hk : clTy ci f = .int) (hfin : FinOK μ ci f) (ht : sT S a = ci + 1) (k : E G μ (pc + 3) ls st S (up2 I a f x) R Q) : E G μ pc ls (vI x :: vR a :: st) S I R Q := by
  refine e_put hd hf hfin ht (fun b h => up2_n h) (fun _ _ => rfl) (fun j h => up2_sn h) (fun _ _ => rfl) ?_ (fun o v => ?_) (fun o v => ?_) k
  · rw [hk, up2_ss]; rfl
  · exact okI_up o (by rw [ht, ety_cls hf.1, hk]; exact v)
  · rw [hk]; exact ⟨rfl, rfl⟩
theorem e_putB {x : Int} (hd : decode (mC μ) pc = .ok (.putfield idx, 3)) (hf : FLk (mO μ) idx ci f) (hk : clTy ci f = .byte) (hfin : FinOK μ ci f) (ht : sT S a = ci + 1) (hx : x = 0 ∨ x = 1) (k : E G μ (pc + 3) ls st S (up2 I a f x) R Q) : E G μ pc ls (vI x :: vR a :: st) S I R Q := by
  refine e_put hd hf hfin ht (fun b h => up2_n h) (fun _ _ => rfl) (fun j h => up2_sn h) (fun _ _ => rfl) ?_ (fun o v => ?_) (fun o v => ?_) k
  · rw [hk, up2_ss]; rfl
  · exact okI_up o (by rw [ht, ety_cls hf.1, hk]; show -128 ≤ x ∧ x < 128; omega)
  · rw [hk]; rcases hx with rfl | rfl <;> exact ⟨rfl, rfl⟩
theorem e_putZ {x : Int} (hd : decode (mC μ) pc = .ok (.putfield idx, 3)) (hf : FLk (mO μ) idx ci f) (hk : clTy ci f = .boolean) (hfin : FinOK μ ci f) (ht : sT S a = ci + 1) (hx : x = 0 ∨ x = 1) (k : E G μ (pc + 3) ls st S (up2 I a f x) R Q) : E G μ pc ls (vI x :: vR a :: st) S I R Q := by
  refine e_put hd hf hfin ht (fun b h => up2_n h) (fun _ _ => rfl) (fun j h => up2_sn h) (fun _ _ => rfl) ?_ (fun o v => ?_) (fun o v => ?_) k
  · rw [hk, up2_ss]; rfl
  · exact okI_up o (by rw [ht, ety_cls hf.1, hk]; exact hx)
  · rw [hk]; rcases hx with rfl | rfl <;> exact ⟨rfl, rfl⟩
theorem e_putL {x : Int} (hd : decode (mC μ) pc = .ok (.putfield idx, 3)) (hf : FLk (mO μ) idx ci f) (hk : clTy ci f = .long) (hfin : FinOK μ ci f) (ht : sT S a = ci + 1) (k : E G μ (pc + 3) ls st S (up2 I a f x) R Q) : E G μ pc ls (vL x :: vR a :: st) S I R Q := by
  refine e_put hd hf hfin ht (fun b h => up2_n h) (fun _ _ => rfl) (fun j h => up2_sn h) (fun _ _ => rfl) ?_ (fun o v => ?_) (fun o v => ?_) k
  · rw [hk, up2_ss]; rfl
  · exact okI_up o (by rw [ht, ety_cls hf.1, hk]; exact v)
  · rw [hk]; exact ⟨rfl, rfl⟩
theorem e_putR {r : Nat} (hd : decode (mC μ) pc = .ok (.putfield idx, 3)) (hf : FLk (mO μ) idx ci f) (hk : tk (clTy ci f) = 2) (hfin : FinOK μ ci f) (ht : sT S a = ci + 1) (k : E G μ (pc + 3) ls st S I (up2 R a f r) Q) : E G μ pc ls (vR r :: vR a :: st) S I R Q := by
  refine e_put hd hf hfin ht (fun _ _ => rfl) (fun b h => up2_n h) (fun _ _ => rfl) (fun j h => up2_sn h) ?_ (fun o v => o) (fun o v => ?_) k
  · rw [up2_ss]
    generalize clTy ci f = ty at hk
    cases ty <;> first | rfl | cases hk
  · generalize clTy ci f = ty at hk
    cases ty <;> first | (cases r <;> exact ⟨rfl, rfl⟩) | cases hk
end FL
