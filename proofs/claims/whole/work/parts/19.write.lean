/-! WRITE -/
theorem b255a (u : UInt64) : (u.toInt64 &&& 255).toInt32 = nI (u.toNat % 256) := by
  apply Int32.toBitVec_inj.mp
  apply BitVec.eq_of_toNat_eq
  show ((u.toBitVec &&& 255#64).signExtend 32).toNat = (BitVec.ofNat 32 (u.toNat % 256)).toNat
  rw [BitVec.signExtend_eq_setWidth_of_le _ (by decide), BitVec.toNat_setWidth, BitVec.toNat_and, BitVec.toNat_ofNat]
  show (u.toNat &&& 255) % 2 ^ 32 = _
  rw [Nat.and_two_pow_sub_one_eq_mod u.toNat 8, BitVec.toNat_ofNat]
theorem b255b (u : UInt64) : (u.toInt64.toInt32 &&& 255) = nI (u.toNat % 256) := by
  apply Int32.toBitVec_inj.mp
  apply BitVec.eq_of_toNat_eq
  show ((u.toBitVec).signExtend 32 &&& 255#32).toNat = (BitVec.ofNat 32 (u.toNat % 256)).toNat
  rw [BitVec.toNat_and, BitVec.signExtend_eq_setWidth_of_le _ (by decide), BitVec.toNat_setWidth, BitVec.toNat_ofNat]
  show (u.toNat % 2 ^ 32 &&& 255) = _
  rw [Nat.and_two_pow_sub_one_eq_mod _ 8, BitVec.toNat_ofNat]
  omega
/-- the code at place k of w -/
def wb (w : Int64) (k : Nat) : Nat := (w.toUInt64 >>> UInt64.ofNat (8 * k)).toNat % 256
theorem sh8 : ∀ k : Nat, k < 8 → (nI (8 * k)).toInt64.toUInt64 &&& Int64.toUInt64 63 = UInt64.ofNat (8 * k) := by decide +kernel
theorem wb_c {ht : Nat} {I : Nat → Int32} {A : Nat → Nat → Int32} {J : Nat → Nat → Int64} {it : Nat → Option Nat} {dyn : fsH} {w : Int64} {k : Nat} (h : k < 8) : L_X5_codeIn_r ht I A J it dyn w (nI (8 * k)) = nI (wb w k) := by
  unfold L_X5_codeIn_r
  rw [sh8 k h, b255a]
  rfl
theorem wb_m {w : Int64} {k : Nat} (h : k < 8) : (((w.toUInt64 >>> ((8 * nI k).toInt64.toUInt64 &&& Int64.toUInt64 63)).toInt64).toInt32 &&& 255) = nI (wb w k) := by
  rw [iL 8, nI_mul, sh8 k h, b255b]
  rfl
theorem wb_lt (w : Int64) (k : Nat) : wb w k < 256 := Nat.mod_lt _ (by decide)
def v8 : Nat → Int32
  | 0 => -8
  | k + 1 => nI (8 * k)
def v1k : Nat → Int32
  | 0 => -1
  | k + 1 => nI k
theorem v8_s : ∀ k : Nat, k < 8 → v8 (k + 1) + (-8) = v8 k := by decide +kernel
theorem v1_s : ∀ k : Nat, k < 8 → v1k (k + 1) + (-1) = v1k k := by decide +kernel
theorem v8_p : ∀ k : Nat, k < 8 → ¬ v8 (k + 1) < 0 := by decide +kernel
theorem v1_p : ∀ k : Nat, k < 8 → ¬ v1k (k + 1) < 0 := by decide +kernel
def wcs (w : Int64) : Nat → List Nat
  | 0 => []
  | k + 1 => wb w k :: wcs w k
def okc (l : List Nat) : Bool := l.all fun c => c == 0 || (decide (32 ≤ c) && decide (c ≤ 126))
def nz (l : List Nat) : List Nat := l.filter fun c => c != 0
theorem wcs_len (w : Int64) (k : Nat) : (wcs w k).length = k := by
  induction k with
  | zero => rfl
  | succ k ih => simp [wcs, ih]
theorem nz_le (l : List Nat) : (nz l).length ≤ l.length := List.length_filter_le _ _
/-- the text -/
def txR (li ai : Nat) (I : Nat → Int32) (A : Nat → Nat → Int32) (t : List Nat) : Prop := I li = nI t.length ∧ t.length ≤ 60 ∧ (∀ j : Nat, j < t.length → A ai j = nI (t.getD j 0)) ∧ ∀ c ∈ t, 32 ≤ c ∧ c ≤ 126
theorem txR.get {li ai : Nat} {I : Nat → Int32} {A : Nat → Nat → Int32} {t : List Nat} (h : txR li ai I A t) {I' : Nat → Int32} {A' : Nat → Nat → Int32} (hI : I' li = I li) (hA : A' ai = A ai) : txR li ai I' A' t := ⟨by rw [hI]; exact h.1, h.2.1, fun j hj => by rw [hA]; exact h.2.2.1 j hj, h.2.2.2⟩
theorem txR.snoc {li ai : Nat} {I : Nat → Int32} {A : Nat → Nat → Int32} {t : List Nat} (h : txR li ai I A t) {c : Nat} (hc : 32 ≤ c ∧ c ≤ 126) (hl : t.length + 1 ≤ 60) {y : Int32} (hy : y = nI c) : txR li ai (upd I li (I li + 1)) (va_up A ai (upd (A ai) (I li).toNatClampNeg y)) (t ++ [c]) := by
  obtain ⟨h1, h2, h3, h4⟩ := h
  refine ⟨?_, by simpa using hl, fun j hj => ?_, fun x hx => ?_⟩
  · rw [upd_s, h1, iL 1, nI_add, List.length_append]; rfl
  · rw [va_up_self, h1, nI_clamp (by omega)]
    by_cases e : j = t.length
    · subst e
      rw [upd_s, hy]
      simp
    · rw [upd_n _ _ e]
      have : j < t.length := by simp at hj; omega
      rw [h3 j this]
      simp [List.getD, List.getElem?_append_left this]
  · rcases List.mem_append.mp hx with hx | hx
    · exact h4 x hx
    · cases List.mem_singleton.mp hx; exact hc
theorem nz_cons {c : Nat} {l : List Nat} (h : c ≠ 0) : nz (c :: l) = c :: nz l := by simp [nz, h]
theorem nz_zero {l : List Nat} : nz (0 :: l) = nz l := by simp [nz]
theorem okc_cons {c : Nat} {l : List Nat} : okc (c :: l) = true ↔ (c = 0 ∨ (32 ≤ c ∧ c ≤ 126)) ∧ okc l = true := by simp [okc]
theorem nI_z {c : Nat} (h : c < 256) : nI c = 0 ↔ c = 0 := by
  rw [iL 0, nI_eq (by omega) (by omega)]
theorem nI_cc {c : Nat} (h : c ≤ 126) : vp_nar .char (((nI c).toUInt32 % 65536).toInt32) = nI c := (by decide +kernel : ∀ c : Nat, c < 127 → vp_nar .char (((nI c).toUInt32 % 65536).toInt32) = nI c) c (by omega)
section WR
variable {ht : Nat} {J : Nat → Nat → Int64} {it : Nat → Option Nat} {dyn : fsH} {w : Int64}
theorem wr2 (v3 : Int32) : ∀ (k n : Nat) (I : Nat → Int32) (A : Nat → Nat → Int32) (t : List Nat), k < n → k ≤ 8 → txR 2 2 I A t → okc (wcs w k) = true → t.length + (nz (wcs w k)).length ≤ 60 →
    (txR 2 2 (Lb_X5_append_76_I n ht I A J it dyn w v3 (v8 k)) (Lb_X5_append_76_A n ht I A J it dyn w v3 (v8 k)) (t ++ nz (wcs w k)) ∧ (∀ q : Nat, q ≠ 2 → Lb_X5_append_76_I n ht I A J it dyn w v3 (v8 k) q = I q) ∧ (∀ q : Nat, q ≠ 2 → Lb_X5_append_76_A n ht I A J it dyn w v3 (v8 k) q = A q)) ∧ S_Lb_X5_append_76 n ht I A J it dyn w v3 (v8 k) := by
  intro k
  induction k with
  | zero =>
    intro n I A t hn _ ht9 _ _
    obtain ⟨n, rfl⟩ : ∃ n', n = n' + 1 := ⟨n - 1, by omega⟩
    have h0 : v8 0 < 0 := by decide
    simp only [Lb_X5_append_76_I, Lb_X5_append_76_A, S_Lb_X5_append_76, if_pos h0]
    exact ⟨⟨by simpa [wcs, nz] using ht9, fun _ _ => trivial, fun _ _ => trivial⟩, fun h => absurd h0 h⟩
  | succ k ih =>
    intro n I A t hn hk ht9 hok hlen
    obtain ⟨n, rfl⟩ : ∃ n', n = n' + 1 := ⟨n - 1, by omega⟩
    have h0 := v8_p k (by omega)
    have hs := v8_s k (by omega)
    have hc : L_X5_codeIn_r ht I A J it dyn w (v8 (k + 1)) = nI (wb w k) := wb_c (by omega)
    simp only [Lb_X5_append_76_I, Lb_X5_append_76_A, S_Lb_X5_append_76, if_neg h0, hs, hc]
    rw [show wcs w (k + 1) = wb w k :: wcs w k from rfl] at hok hlen ⊢
    rw [okc_cons] at hok
    by_cases hz : wb w k = 0
    · have hz' : nI (wb w k) = 0 := (nI_z (wb_lt w k)).mpr hz
      simp only [if_pos hz']
      rw [hz, nz_zero] at hlen
      rw [hz, nz_zero]
      obtain ⟨h1, h2⟩ := ih n I A t (by omega) (by omega) ht9 hok.2 hlen
      exact ⟨h1, fun _ => ⟨fun h => absurd rfl h, h2⟩⟩
    · have hr : 32 ≤ wb w k ∧ wb w k ≤ 126 := hok.1.resolve_left hz
      rw [nz_cons hz] at hlen ⊢
      simp only [List.length_cons] at hlen
      have h60 : ¬ (60 : Int32) ≤ I 2 := by
        rw [ht9.1, iL 60, nI_leI (by omega) (by omega)]; omega
      have hz' : ¬ nI (wb w k) = 0 := fun h => hz ((nI_z (wb_lt w k)).mp h)
      simp only [if_neg hz', if_neg h60]
      have ht8 := ht9.snoc hr (by omega) (y := vp_nar .char (((nI (wb w k)).toUInt32 % 65536).toInt32)) (nI_cc hr.2)
      obtain ⟨⟨h1, h2, h3⟩, h4⟩ := ih n _ _ _ (by omega) (by omega) ht8 hok.2 (by simp; omega)
      refine ⟨⟨by simpa using h1, fun q hq => by rw [h2 q hq, upd_n _ _ hq], fun q hq => by rw [h3 q hq, va_up_ne _ _ hq]⟩, fun _ => ⟨fun _ _ => ?_, h4⟩⟩
      rw [ht9.1]
      exact nI_in (by omega) (by omega)
end WR
