/-! the tie between the two systems' states -/
/-- the reference's place of a cell, to the class's -/
def pi (k : Nat) : Nat := if k < 18 then 4 + 6 * (k % 3) + k / 3 else if k < 24 then k + 4 else k - 24
def TR (w c : Nat → Int32) : Prop := ∀ k, k < 28 → w k = c (pi k)
/-- bounds of a table's cells -/
def TB (V nd : Nat) (c : Nat → Int32) : Prop :=
  (∃ b, b ≤ nd - 1 ∧ c 0 = nI b) ∧ (∃ m, m ≤ 999 ∧ c 1 = nI m) ∧ (c 2 = 0 ∨ c 2 = 1) ∧ (∃ v, v ≤ V ∧ c 3 = nI v) ∧
  (∀ g, g < 6 → ∃ m, m ≤ 99 ∧ c (4 + g) = nI m) ∧ (∀ g, g < 6 → ∃ m, m ≤ 9 ∧ c (10 + g) = nI m) ∧
  (∀ g, g < 6 → ∃ j, j ≤ 18 * V ∧ c (16 + g) = nI j) ∧ (∀ d, d < 6 → ∃ p, p ≤ 60 ∧ c (22 + d) = nI p)
/-- the book behind v visits: the reference's rows, the class's ring -/
def BK (nd v : Nat) (w L : Nat → Int32) : Prop :=
  w 28 = nI (min 60 v) ∧ (∀ i t, i < min 60 v → t < 4 → w (29 + 4 * (min 60 v - 1 - i) + t) = L (4 * ((v - i) % 100) + t)) ∧
  ∀ i, i < min 60 v → ∃ d, d < nd ∧ L (4 * ((v - i) % 100) + 1) = nI d
/-- a table with its book, of both sides -/
def TaI (V nd v : Nat) (w c L : Nat → Int32) : Prop := TR w c ∧ TB V nd c ∧ c 3 = nI v ∧ v ≤ V ∧ BK nd v w L
def HouseI (nd ng : Nat) (zd zg zw zm : Int32) (zq zl : Nat → Int32) (yd yg : Int32) (yr yq yl : Nat → Int32) : Prop :=
  zd = nI nd ∧ yd = nI nd ∧ zg = nI ng ∧ yg = nI ng ∧ nd ≤ 6 ∧ ng ≤ 6 ∧ (0 < ng → 2 ≤ nd) ∧ (ng = 0 → nd = 0) ∧
  zw = yr 1 ∧ zm = yr 2 ∧ (∃ w, w ≤ 30 ∧ zw = nI w) ∧ (∃ m, m ≤ 9 ∧ zm = nI m) ∧
  (∀ d, d < nd → zq d = yq (2 * d)) ∧ (∀ d, d < nd → ∃ q, q ≤ 9 ∧ zq d = nI q) ∧ (∀ g, g < ng → zl g = yl (3 * g))
def TapeI (n : Nat) (zn : Int32) (zb : Nat → Int32) (yn : Int32) (yb : Nat → Int32) : Prop :=
  zn = nI n ∧ yn = nI n ∧ n ≤ 240 ∧ ∀ i, i < n → ∃ b, b < 256 ∧ zb i = nI b ∧ yb i = (nI b).toInt8.toInt32
def cut6 (f : Nat → Int32) : Nat → Int32 := fun i => if i < 6 then f i else 0
/-- the class's words C (N of them) give ev of the six letters -/
def LawC (C : Nat → Int32) (N : Nat) (ev : (Nat → Int32) → Int32) : Prop :=
  ∀ (z : St) (h : Nat) (post : Int32 → St → Prop), h < 4 → gA z (32 + (4 + h)) = C → gZ z (8 + (4 + h)) = N → gI z 31 = nI h → gI z 31 < gI z 30 → (∀ f, post (ev (cut6 (gA z 21))) (sF z 22 f)) → S_Laws_worth post z
/-- the ints that the reference's reading of a text changes -/
def RD : List Nat := [103, 104, 105, 106, 107, 108, 109, 110]
def lets (f : Nat → Int32) : Nat → Int32 := cut6 (fun i => f ([113, 104, 108, 109, 110, 112].getD i 0))
/-- the reference's text T (n bytes) gives ev of the letters -/
def LawM (T : Nat → Int32) (n : Nat) (ev : (Nat → Int32) → Int32) : Prop :=
  ∀ (y : St) (h : Nat) (post : St → Prop), h < 4 → (∀ i, i < n → gA y 102 (240 * h + i) = T i) → (∀ i, i < 6 → lets (gA y 104) i ≠ Int32.minValue) → (∀ y', Fr RD [] y y' → gI y' 109 = ev (lets (gA y 104)) → post y') → S_M_goThrough_r102 post ((240 : Int32) * nI h) (nI n) y
def LawI (ln : Nat) (zn zh : Int32) (zz : Nat → Nat) (zc : Nat → Nat → Int32) (yn yh : Int32) (yt yl : Nat → Int32) : Prop :=
  zn = nI ln ∧ yn = nI ln ∧ ln ≤ 4 ∧ (zh = -1 ∧ yh = -1 ∨ ∃ h, h < ln ∧ zh = nI h ∧ yh = nI h) ∧
  ∀ h, h < ln → ∃ n ev, n ≤ 240 ∧ yl h = nI n ∧ LawC (zc (32 + (4 + h))) (zz (8 + (4 + h))) ev ∧ LawM (fun i => yt (240 * h + i)) n ev
def WinI (wn : Nat) (zn : Int32) (zz : Nat → Nat) (zc : Nat → Nat → Int32) (yn : Int32) (yw yl : Nat → Int32) : Prop :=
  zn = nI wn ∧ yn = nI wn ∧ wn ≤ 4 ∧ ∀ k, k < wn → ∃ n, n ≤ 16 ∧ zz (8 + k) = n ∧ yl k = nI n ∧
    ∀ i, i < n → ∃ a d, a < 3 ∧ d < 10 ∧ zc (32 + k) i = nI (10 * a + d) ∧ yw (2 * (16 * k + i)) = nI a ∧ yw (2 * (16 * k + i) + 1) = (if a = 1 then -1 else nI d)
def SeenI (nd sn : Nat) (zn : Int32) (zr : Nat → Int32) (yn : Int32) (yr : Nat → Int32) : Prop :=
  zn = nI sn ∧ yn = nI sn ∧ sn ≤ 10 ∧ (∀ i, i < sn → ∃ d, d < nd ∧ zr (4 * i + 1) = nI d) ∧ (∀ i, i < 4 * sn → zr i = yr i) ∧ ∀ i, i < sn → zr (4 * i + 2) ≠ Int32.minValue
/-- the acts that can be undone: v 0 the visits now, v (j + 1) those of the (j + 1)-st latest -/
def PastI (V nd a n : Nat) (v : Nat → Nat) (zk zn : Int32) (zp L : Nat → Int32) (yk : Int32) (yp : Nat → Int32) : Prop :=
  zk = nI a ∧ yk = nI a ∧ a ≤ 40 ∧ zn = nI n ∧ n < 40 ∧
  ∀ j, j < a → v (j + 1) ≤ v j ∧ v j ≤ v (j + 1) + 1 ∧ TaI V nd (v (j + 1)) (fun k => yp (269 * (a - 1 - j) + k)) (fun k => zp (28 * ((n + 39 - j) % 40) + k)) L
def ImgI (V nd : Nat) (zi : Int32) (zc L : Nat → Int32) (yi : Int32) (yr : Nat → Int32) : Prop :=
  (zi = 0 ∧ yi = 0) ∨ (zi = 1 ∧ yi = 1 ∧ ∃ v, TaI V nd v yr zc L)
def Inv (V : Nat) (z y : St) : Prop :=
  ∃ (nd ng tl ln wn sn a n : Nat) (v : Nat → Nat), HouseI nd ng (gI z 26) (gI z 27) (gI z 28) (gI z 29) (gA z 18) (gA z 19) (gI y 111) (gI y 112) (gA y 105) (gA y 107) (gA y 109) ∧
  TapeI tl (gI z 2) (gA z 12) (gI y 101) (gA y 101) ∧
  LawI ln (gI z 30) (gI z 31) (gZ z) (gA z) (gI y 102) (gI y 117) (gA y 102) (gA y 103) ∧
  WinI wn (gI z 0) (gZ z) (gA z) (gI y 115) (gA y 111) (gA y 112) ∧
  SeenI nd sn (gI z 41) (gA z 30) (gI y 128) (gA y 117) ∧
  TaI V nd (v 0) (gA y 113) (gA z 23) (gA z 26) ∧
  PastI V nd a n v (gI z 25) (gI z 24) (gA z 25) (gA z 26) (gI y 119) (gA y 115) ∧
  ImgI V nd (gI z 23) (gA z 27) (gA z 28) (gI y 129) (gA y 119) ∧ gI z 1 = gI y 118
