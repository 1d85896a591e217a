/-! PURE: characters of a text; type on both sides -/
def ch (m k : Nat) : Nat := m / 2 ^ (8 * k) % 256
theorem ch_lt (m k : Nat) : ch m k < 256 := Nat.mod_lt _ (by decide)
theorem sh8 {m k : Nat} (hm : m < 2 ^ 64) (hk : k < 8) : ((lN m : Int64).toUInt64 >>> (((8 : Int32) * nI k : Int32).toInt64.toUInt64 &&& Int64.toUInt64 63)).toInt64 = lN (m / 2 ^ (8 * k)) := by
  rw [show (8 : Int32) = nI 8 from by decide, pk_mul]
  exact wb_shr hm (by omega)
theorem nI_255 (m : Nat) : nI m &&& 255 = nI (m % 256) := by
  rw [pk_and (nI m) (m := 255) 8 (by decide)]
  have h : (nI m).toBitVec.toNat = m % 2 ^ 32 := BitVec.toNat_ofNat m 32
  rw [h]
  congr 1
  omega
theorem char_v {m k : Nat} (hm : m < 2 ^ 64) (hk : k < 8) (n : Nat) : f_Texts_character n (lN m) (nI k) = some (nI (ch m k)) := by
  unfold f_Texts_character
  rw [sh8 hm hk, lN_i, nI_255]
  rfl
theorem charM {m k : Nat} (hm : m < 2 ^ 64) (hk : k < 8) : (((lN m : Int64).toUInt64 >>> (((8 : Int32) * nI k : Int32).toInt64.toUInt64 &&& Int64.toUInt64 63)).toInt64) &&& (255 : Int64) = lN (ch m k) := by
  rw [sh8 hm hk, show (255 : Int64) = lN (2 ^ 8 - 1) from by decide, wb_mask (Nat.lt_of_le_of_lt (Nat.div_le_self _ _) hm) (by decide)]
  rfl
theorem nI_z {a : Nat} (h : a < 2 ^ 31) : nI a = 0 ↔ a = 0 := by
  rw [← nI_0]
  exact nI_eq h (by decide)
theorem lN_z {a : Nat} (h : a < 2 ^ 31) : lN a = 0 ↔ a = 0 := lN_eq (b := 0) h (by decide)
/-- how many characters, from place k on, at most j more -/
def szF (m : Nat) : Nat → Nat → Nat
  | 0, k => k
  | j + 1, k => if ch m k = 0 then k else szF m j (k + 1)
def szT (m : Nat) : Nat := szF m 8 0
theorem szF_le (m : Nat) : ∀ j k, k ≤ szF m j k ∧ szF m j k ≤ k + j := by
  intro j
  induction j with
  | zero => intro k; exact ⟨Nat.le_refl _, Nat.le_refl _⟩
  | succ j ih =>
    intro k
    unfold szF
    split
    · omega
    · have := ih (k + 1); omega
theorem szT_le (m : Nat) : szT m ≤ 8 := by have := (szF_le m 8 0).2; unfold szT; omega
theorem szF_ne (m : Nat) : ∀ j k i, k ≤ i → i < szF m j k → ch m i ≠ 0 := by
  intro j
  induction j with
  | zero => intro k i h1 h2; unfold szF at h2; omega
  | succ j ih =>
    intro k i h1 h2
    unfold szF at h2
    split at h2
    · omega
    · rename_i h
      by_cases hi : i = k
      · rw [hi]; exact h
      · exact ih (k + 1) i (by omega) h2
theorem szT_ne {m i : Nat} (h : i < szT m) : ch m i ≠ 0 := szF_ne m 8 0 i (Nat.zero_le _) h
theorem size_l {m : Nat} (hm : m < 2 ^ 64) : ∀ j k n, k + j = 8 → j < n → f_Texts_size_2 n (lN m) (nI k) = some (nI (szF m j k)) := by
  intro j
  induction j with
  | zero =>
    intro k n hk hn
    obtain ⟨n, rfl⟩ : ∃ z, n = z + 1 := ⟨n - 1, by omega⟩
    rw [f_Texts_size_2, if_pos (by rw [i_le, v_8, nI_toInt (by omega)]; omega)]
    rfl
  | succ j ih =>
    intro k n hk hn
    obtain ⟨n, rfl⟩ : ∃ z, n = z + 1 := ⟨n - 1, by omega⟩
    rw [f_Texts_size_2, if_neg (by rw [i_le, v_8, nI_toInt (by omega)]; omega), char_v hm (by omega), cl_s]
    unfold szF
    have := ch_lt m k
    by_cases h : ch m k = 0
    · rw [if_pos ((nI_z (by omega)).mpr h), if_pos h]
    · rw [if_neg (fun z => h ((nI_z (by omega)).mp z)), if_neg h, bd_e, nI_1]
      exact ih (k + 1) n (by omega) (by omega)
theorem size_v {m : Nat} (hm : m < 2 ^ 64) {n : Nat} (hn : 8 < n) : f_Texts_size n (lN m) = some (nI (szT m)) := size_l hm 8 0 n rfl hn
theorem sizeM {m : Nat} (hm : m < 2 ^ 64) (μ : Mem) : ∀ j k n, k + j = 8 → j < n → ∃ n', n ≤ n' + j + 1 ∧ f_Mo_type_15 n μ (lN m) (nI k) = f_Mo_type_42 n' μ (lN m) (nI (szF m j k)) := by
  intro j
  induction j with
  | zero =>
    intro k n hk hn
    obtain ⟨n, rfl⟩ : ∃ z, n = z + 1 := ⟨n - 1, by omega⟩
    refine ⟨n, by omega, ?_⟩
    rw [f_Mo_type_15, if_pos (by rw [i_le, v_8, nI_toInt (by omega)]; omega)]
    rfl
  | succ j ih =>
    intro k n hk hn
    obtain ⟨n, rfl⟩ : ∃ z, n = z + 1 := ⟨n - 1, by omega⟩
    rw [f_Mo_type_15, if_neg (by rw [i_le, v_8, nI_toInt (by omega)]; omega), charM hm (by omega)]
    unfold szF
    have := ch_lt m k
    by_cases h : ch m k = 0
    · refine ⟨n, by omega, ?_⟩
      rw [if_pos ((lc_0 _ _).mpr ((lN_z (by omega)).mpr h)), if_pos h]
    · obtain ⟨n', h1, h2⟩ := ih (k + 1) n (by omega) (by omega)
      refine ⟨n', by omega, ?_⟩
      rw [if_neg (fun z => h ((lN_z (by omega)).mp ((lc_0 _ _).mp z))), if_neg h, bd_e, nI_1]
      exact h2
theorem wi_g (μ : Mem) (k j : Nat) (v : Int32) (q i : Nat) : (wi μ k j v).1 q i = if q = k ∧ i = j then v else μ.1 q i := by
  unfold wi upd
  by_cases h : q = k
  · subst h
    by_cases h2 : i = j
    · simp [h2]
    · simp [h2]
  · simp [h]
theorem wl_g (μ : Mem) (k j : Nat) (v : Int64) (q i : Nat) : (wl μ k j v).2 q i = if q = k ∧ i = j then v else μ.2 q i := by
  unfold wl vp_updL
  by_cases h : q = k
  · subst h
    by_cases h2 : i = j
    · simp [h2]
    · simp [h2]
  · simp [h]
theorem wi_2 (μ : Mem) (k j : Nat) (v : Int32) : (wi μ k j v).2 = μ.2 := rfl
theorem wl_1 (μ : Mem) (k j : Nat) (v : Int64) : (wl μ k j v).1 = μ.1 := rfl
/-- what an appended text leaves in a memory whose size lies at (a, b) and whose characters lie in cell c -/
def Appd (a b c m s k t : Nat) (μ μ' : Mem) : Prop := μ'.1 a b = nI (s + t) ∧ (∀ i, μ'.1 c i = if s + k ≤ i ∧ i < s + t then nI (ch m (i - s)) else μ.1 c i) ∧ (∀ q i, ¬ (q = a ∧ i = b) → q ≠ c → μ'.1 q i = μ.1 q i) ∧ μ'.2 = μ.2
theorem Appd.put {a b c m s k t : Nat} {μ μ' : Mem} (hac : a ≠ c) (hk : k < t) (h : Appd a b c m s (k + 1) t (wi μ c (s + k) (nI (ch m k))) μ') : Appd a b c m s k t μ μ' := by
  obtain ⟨h1, h2, h3, h4⟩ := h
  refine ⟨h1, fun i => ?_, fun q i h5 h6 => ?_, h4⟩
  · rw [h2 i, wi_g]
    by_cases e1 : i = s + k
    · subst e1
      rw [if_neg (by omega), if_pos ⟨rfl, rfl⟩, if_pos (by omega), Nat.add_sub_cancel_left]
    · rw [if_neg (show ¬ (c = c ∧ i = s + k) from fun z => e1 z.2)]
      by_cases e2 : s + (k + 1) ≤ i ∧ i < s + t
      · rw [if_pos e2, if_pos (by omega)]
      · rw [if_neg e2, if_neg (by omega)]
  · rw [h3 q i h5 h6, wi_g, if_neg (fun z => h6 z.1)]
theorem appX {m s t : Nat} (hm : m < 2 ^ 64) (ht : t ≤ 8) (hst : s + t ≤ 24) : ∀ j k n (μ : Mem), k + j = t → j < n → μ.1 1 1 = nI s → ∃ μ', f_Draft_append_25 n μ (lN m) (nI t) (nI k) = some (true, μ') ∧ Appd 1 1 2 m s k t μ μ' := by
  intro j
  induction j with
  | zero =>
    intro k n μ hk hn h0
    obtain ⟨n, rfl⟩ : ∃ z, n = z + 1 := ⟨n - 1, by omega⟩
    refine ⟨wi μ 1 1 (nI s + nI t), ?_, ?_⟩
    · rw [f_Draft_append_25, if_pos (nI_le (by omega) (by omega)), h0]
      rfl
    · refine ⟨by rw [wi_g, if_pos ⟨rfl, rfl⟩, nI_add], fun i => ?_, fun q i h1 h2 => ?_, rfl⟩
      · rw [if_neg (by omega), wi_g, if_neg (by omega)]
      · rw [wi_g, if_neg h1]
  | succ j ih =>
    intro k n μ hk hn h0
    obtain ⟨n, rfl⟩ : ∃ z, n = z + 1 := ⟨n - 1, by omega⟩
    obtain ⟨μ', h1, h2⟩ := ih (k + 1) n (wi μ 2 (s + k) (nI (ch m k))) (by omega) (by omega) (by rw [wi_g, if_neg (by omega)]; exact h0)
    refine ⟨μ', ?_, h2.put (by decide) (by omega)⟩
    rw [f_Draft_append_25, if_neg (nI_ge (by omega) (by omega)), char_v hm (by omega), cl_s, h0, nI_add, gd_i (by rw [nI_toInt (by omega)]; omega), nI_clamp (by omega), bd_e, bd_e, nI_1]
    exact h1
theorem appM {m s t : Nat} (hm : m < 2 ^ 64) (ht : t ≤ 8) (hst : s + t ≤ 24) : ∀ j k n (μ : Mem), k + j = t → j < n → μ.1 0 1 = nI s → ∃ μ', f_Mo_type_62 n μ (lN m) (nI t) (nI k) = some (true, μ') ∧ Appd 0 1 1 m s k t μ μ' := by
  intro j
  induction j with
  | zero =>
    intro k n μ hk hn h0
    obtain ⟨n, rfl⟩ : ∃ z, n = z + 1 := ⟨n - 1, by omega⟩
    refine ⟨wi μ 0 1 (nI s + nI t), ?_, ?_⟩
    · rw [f_Mo_type_62, if_pos (nI_le (by omega) (by omega)), h0]
      rfl
    · refine ⟨by rw [wi_g, if_pos ⟨rfl, rfl⟩, nI_add], fun i => ?_, fun q i h1 h2 => ?_, rfl⟩
      · rw [if_neg (by omega), wi_g, if_neg (by omega)]
      · rw [wi_g, if_neg h1]
  | succ j ih =>
    intro k n μ hk hn h0
    obtain ⟨n, rfl⟩ : ∃ z, n = z + 1 := ⟨n - 1, by omega⟩
    obtain ⟨μ', h1, h2⟩ := ih (k + 1) n (wi μ 1 (s + k) (nI (ch m k))) (by omega) (by omega) (by rw [wi_g, if_neg (by omega)]; exact h0)
    refine ⟨μ', ?_, h2.put (by decide) (by omega)⟩
    rw [f_Mo_type_62, if_neg (nI_ge (by omega) (by omega)), h0, nI_add, gd_i (by rw [nI_toInt (by omega)]; omega), nI_clamp (by omega), charM hm (by omega), lN_i, bd_e, bd_e, nI_1]
    exact h1
/-- type, both sides: s is the draft's size -/
def typeOK (m s : Nat) : Prop := szT m ≠ 0 ∧ s + szT m ≤ 24
theorem type_x {m s : Nat} (hm : m < 2 ^ 64) (hs : s ≤ 24) {n : Nat} (hn : 9 < n) (μ : Mem) (h0 : μ.1 1 1 = nI s) : (m = 0 → f_X_type n μ (lN m) = some (true, wi (wi μ 1 1 0) 0 10 0)) ∧ (m ≠ 0 → typeOK m s → ∃ μ', f_X_type n μ (lN m) = some (true, wi μ' 0 10 0) ∧ Appd 1 1 2 m s 0 (szT m) μ μ') ∧ (m ≠ 0 → ¬ typeOK m s → f_X_type n μ (lN m) = some (false, μ)) := by
  have hz : lg_cmp (lN m) 0 = 0 ↔ m = 0 := by
    rw [lc_0]
    constructor
    · intro h
      have h1 := congrArg (fun x : Int64 => x.toBitVec.toNat) h
      simp only [wb_tn hm] at h1
      exact h1
    · intro h; rw [h]; rfl
  have h8 := szT_le m
  refine ⟨fun h => ?_, fun h h1 => ?_, fun h h1 => ?_⟩
  · unfold f_X_type
    rw [if_pos (hz.mpr h)]
    rfl
  · obtain ⟨μ', e1, e2⟩ := appX hm h8 h1.2 (szT m) 0 n μ (by omega) (by omega) h0
    refine ⟨μ', ?_, e2⟩
    unfold f_X_type f_Draft_append
    rw [if_neg (fun z => h (hz.mp z)), size_v hm (by omega), cl_s, if_neg (fun z => h1.1 ((nI_z (by omega)).mp z)), h0, nI_add, if_pos (by rw [i_le, v_24, nI_toInt (by have := h1.2; omega)]; have := h1.2; omega)]
    have e3 : f_Draft_append_25 n μ (lN m) (nI (szT m)) 0 = some (true, μ') := e1
    rw [e3, cl2_s, if_neg (by rw [bz_0]; decide)]
    rfl
  · unfold f_X_type f_Draft_append
    rw [if_neg (fun z => h (hz.mp z)), size_v hm (by omega), cl_s]
    unfold typeOK at h1
    by_cases e1 : szT m = 0
    · rw [if_pos ((nI_z (by omega)).mpr e1)]
      rfl
    · rw [if_neg (fun z => e1 ((nI_z (by omega)).mp z)), h0, nI_add, if_neg (by rw [i_le, v_24, nI_toInt (by omega)]; omega)]
      rfl
theorem type_m {m s : Nat} (hm : m < 2 ^ 64) (hs : s ≤ 24) {n : Nat} (hn : 20 < n) (μ : Mem) (h0 : μ.1 0 1 = nI s) : (m = 0 → f_Mo_type n μ (lN m) = some (true, wi μ 0 1 0)) ∧ (m ≠ 0 → typeOK m s → ∃ μ', f_Mo_type n μ (lN m) = some (true, μ') ∧ Appd 0 1 1 m s 0 (szT m) μ μ') ∧ (m ≠ 0 → ¬ typeOK m s → f_Mo_type n μ (lN m) = some (false, μ)) := by
  have hz : lg_cmp (lN m) 0 = 0 ↔ m = 0 := by
    rw [lc_0]
    constructor
    · intro h
      have h1 := congrArg (fun x : Int64 => x.toBitVec.toNat) h
      simp only [wb_tn hm] at h1
      exact h1
    · intro h; rw [h]; rfl
  have h8 := szT_le m
  obtain ⟨n', hn', hsz⟩ := sizeM hm μ 8 0 n rfl (by omega)
  have hsz : f_Mo_type_15 n μ (lN m) 0 = f_Mo_type_42 n' μ (lN m) (nI (szT m)) := hsz
  refine ⟨fun h => ?_, fun h h1 => ?_, fun h h1 => ?_⟩
  · unfold f_Mo_type
    rw [if_pos (hz.mpr h)]
    rfl
  · obtain ⟨μ', e1, e2⟩ := appM hm h8 h1.2 (szT m) 0 n' μ (by omega) (by omega) h0
    refine ⟨μ', ?_, e2⟩
    unfold f_Mo_type
    rw [if_neg (fun z => h (hz.mp z)), hsz]
    unfold f_Mo_type_42
    rw [if_neg (fun z => h1.1 ((nI_z (by omega)).mp z)), h0, nI_add, if_pos (by rw [i_le, v_24, nI_toInt (by have := h1.2; omega)]; have := h1.2; omega)]
    exact e1
  · unfold f_Mo_type
    rw [if_neg (fun z => h (hz.mp z)), hsz]
    unfold f_Mo_type_42
    unfold typeOK at h1
    by_cases e1 : szT m = 0
    · rw [if_pos ((nI_z (by omega)).mpr e1)]
    · rw [if_neg (fun z => e1 ((nI_z (by omega)).mp z)), h0, nI_add, if_neg (by rw [i_le, v_24, nI_toInt (by omega)]; omega)]
