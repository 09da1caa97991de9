/-! ===== the specs read the model half only ===== -/
abbrev sK (m m' : sm) : Prop := ∀ j i, 170 ≤ j ∧ j < 187 → m' j i = m j i
theorem sK_of {m m' : sm} (e : sEq m m') : sK m m' := fun j i h => e j i h.2
theorem sGb_k {m m' : sm} (e : sK m m') (k : Nat) : sGb m' k = sGb m k := by
  unfold sGb
  rw [e 171 k (by decide)]
theorem sHd_k {m m' : sm} (e : sK m m') (k d : Nat) (t : Int32) : ∀ n, sHd m' k d t n = sHd m k d t n
  | 0 => rfl
  | n + 1 => by
    simp only [sHd, sHd_k e k d t n, e 181 n (by decide), e 182 n (by decide), e 184 n (by decide)]
theorem sHi_k {m m' : sm} (e : sK m m') (k d : Nat) (t : Int32) : sHi m' k d t = sHi m k d t := by
  unfold sHi sHn
  rw [sHd_k e, e 170 14 (by decide)]
theorem sTip_k {m m' : sm} (e : sK m m') (k d : Nat) : sTip m' k d = sTip m k d := by
  simp only [sTip, e 177 _ (by decide), e 174 _ (by decide), e 178 _ (by decide)]
theorem sRaw_k {m m' : sm} (e : sK m m') (k d : Nat) (t : Int32) : sRaw m' k d t = sRaw m k d t := by
  simp only [sRaw, sGb_k e, sTip_k e, sHi_k e, e 171 _ (by decide), e 175 _ (by decide), e 170 _ (by decide), e 183 _ (by decide), e 177 _ (by decide), e 179 _ (by decide), e 180 _ (by decide), e 174 _ (by decide)]
theorem sFar_k {m m' : sm} (e : sK m m') (q : Nat) (x y : Int32) : sFar m' q x y = sFar m q x y := by
  simp only [sFar, e 172 _ (by decide), e 173 _ (by decide)]
theorem sDs_k {m m' : sm} (e : sK m m') (q k : Nat) : sDs m' q k = sDs m q k := by
  unfold sDs
  rw [sFar_k e, e 172 _ (by decide), e 173 _ (by decide)]
theorem sDl_k {m m' : sm} (e : sK m m') (k d : Nat) : ∀ q, sDl m' k d q = sDl m k d q
  | 0 => rfl
  | q + 1 => by
    simp only [sDl, sDl_k e k d q, sGb_k e, sDs_k e, sRaw_k e, e 170 _ (by decide)]
theorem sDo_k {m m' : sm} (e : sK m m') (k d : Nat) : sDo m' k d = sDo m k d := by
  simp only [sDo, sDo3, sDl_k e, sRaw_k e, sHi_k e, e 170 _ (by decide), e 171 _ (by decide), e 177 _ (by decide), e 180 _ (by decide)]
theorem sTr_k {m m' : sm} (e : sK m m') (k d : Nat) : sTr m' k d = sTr m k d := by
  simp only [sTr, sDo_k e, sRaw_k e]
theorem sH_k {m m' : sm} (e : sK m m') (h : sH m) : sH m' := by
  obtain ⟨a, h1, h2⟩ := h
  exact ⟨a, h1, (e 170 14 (by decide)).trans h2⟩
theorem sRows_k {m m' : sm} (e : sK m m') (k : Nat) : ∀ n, sRows m' k n = sRows m k n
  | 0 => rfl
  | n + 1 => by
    unfold sRows
    simp only [sRows_k e k n, sGb_k e, sDs_k e]
theorem sBys_k {m m' : sm} (e : sK m m') (k d : Nat) : sBys m' k d = sBys m k d := by
  unfold sBys
  rw [sRows_k e]
  simp only [sTr_k e]
theorem sPast_k {m m' : sm} (e : sK m m') (k x : Nat) : ∀ n, sPast m' k x n = sPast m k x n
  | 0 => rfl
  | n + 1 => by simp only [sPast, sPast_k e k x n, sTr_k e]
theorem sRat_k {m m' : sm} (e : sK m m') (k x : Nat) : sRat m' k x = sRat m k x := by
  simp only [sRat, sNow, sPast_k e, e 170 _ (by decide)]
theorem sMs_k {m m' : sm} (e : sK m m') (k d : Nat) : sMs m' k d = sMs m k d := by
  funext r x
  simp only [sMs, sTr_k e, sRat_k e, sDs_k e]
theorem sMay_k {m m' : sm} (e : sK m m') (k d : Nat) : sMay m' k d = sMay m k d := by
  simp only [sMay, sTr_k e, e 171 _ (by decide), e 175 _ (by decide), e 170 _ (by decide)]
theorem sMend_k {m m' : sm} (e : sK m m') (k d : Nat) : sMend m' k d = sMend m k d := by
  simp only [sMend, sMay_k e, sBys_k e, sMs_k e]
theorem sOn_k {m m' : sm} (e : sK m m') (k : Nat) : ∀ n, sOn m' k n = sOn m k n
  | 0 => rfl
  | n + 1 => by simp only [sOn, sOn_k e k n, e 177 _ (by decide)]
theorem sRO_k {m m' : sm} (e : sK m m') (k d : Nat) : sRO m' k d = sRO m k d := by
  simp only [sRO, sOn_k e, e 171 _ (by decide), e 175 _ (by decide)]
theorem sTl_k {m m' : sm} (e : sK m m') (k d : Nat) : sTl m' k d = sTl m k d := by
  simp only [sTl, sGb_k e, sRO_k e, sTr_k e, e 171 _ (by decide)]
theorem sSn_k {m m' : sm} (e : sK m m') (k f : Nat) : ∀ n, sSn m' k f n = sSn m k f n
  | 0 => rfl
  | n + 1 => by simp only [sSn, sSn_k e k f n, e 177 _ (by decide)]
theorem sBy_k {m m' : sm} (e : sK m m') (k a u : Nat) : sBy m' k a u = sBy m k a u := by
  have h : ∀ y, sTr m' y = sTr m y := fun y => funext fun d => sTr_k e y d
  simp only [sBy, sRows_k e, h]
theorem sSpr_k {m m' : sm} (e : sK m m') (k d : Nat) : sSpr m' k d = sSpr m k d := by
  have h : ∀ y, sTr m' y = sTr m y := fun y => funext fun d => sTr_k e y d
  simp only [sSpr, sRO_k e, sBy_k e, sSn_k e, sFt, h, e 177 _ (by decide), e 175 _ (by decide)]
theorem sNum_k {m m' : sm} (e : sK m m') (k d : Nat) : sNum m' k d = sNum m k d := by
  simp only [sNum, sSpr_k e, sTr_k e, sMend_k e, sR, sRaw_k e, e 171 _ (by decide)]
theorem sOwn_k {m m' : sm} (e : sK m m') (x y : Int32) (d : Nat) : sOwn m' x y d = sOwn m x y d := by
  simp only [sOwn, sTl_k e, sFar_k e]
theorem sRn_k {m m' : sm} (e : sK m m') (v d : Nat) : ∀ n, sRn m' v d n = sRn m v d n
  | 0 => rfl
  | n + 1 => by simp only [sRn, sRn_k e v d n, sSq, sOwn_k e, sNum_k e, e 186 _ (by decide)]
theorem sMn_k {m m' : sm} (e : sK m m') (v : Nat) : ∀ n, sMn m' v n = sMn m v n
  | 0 => rfl
  | n + 1 => by simp only [sMn, sMn_k e v n, e 186 _ (by decide)]
theorem sRain_k {m m' : sm} (e : sK m m') (v : Nat) (day : Int32) : sRain m' v day = sRain m v day := by
  simp only [sRain, sMn_k e, sTl_k e, sRn_k e]
theorem sWf_k {m m' : sm} (e : sK m m') (h : sWf m) : sWf m' := by
  obtain ⟨h1, ⟨a, h2, h3⟩, h4⟩ := h
  refine ⟨sH_k e h1, ⟨a, h2, (e 170 15 (by decide)).trans h3⟩, fun k hk => ?_⟩
  obtain ⟨b, h5, h6⟩ := h4 k hk
  exact ⟨b, h5, (e 175 k (by decide)).trans h6⟩
theorem sFl_k {m m' : sm} (e : sK m m') (v : Nat) (day : Int32) : ∀ n, sFl m' v day n = sFl m v day n
  | 0 => rfl
  | n + 1 => by simp only [sFl, sFl_k e v day n, sRain_k e, e 185 _ (by decide)]
theorem sNb_k {m m' : sm} (e : sK m m') (k : Nat) : sNb m' k = sNb m k := by
  simp only [sNb, sRows_k e, e 171 _ (by decide)]
theorem sDay_k {m m' : sm} (e : sK m m') (k d : Nat) : sDay m' k d = sDay m k d := by
  simp only [sDay, sNb_k e, sTr_k e]
theorem sNs_k {m m' : sm} (e : sK m m') (k d : Nat) : sNs m' k d = sNs m k d := by
  simp only [sNs, sNb_k e, sTr_k e]
theorem sWk_k {m m' : sm} (e : sK m m') (k w : Nat) (own : Bool) : ∀ n, sWk m' k w own n = sWk m k w own n
  | 0 => rfl
  | n + 1 => by simp only [sWk, sWk_k e k w own n, sDay_k e, sTr_k e, sNs_k e]
