/-! ===== the relation of a world of the class with the reference's field ===== -/
/-- the book: what was told -/
def Bk : Type := Nat → Nat → Nat
def Bk.rF (bk : Bk) (i : Nat) : Nat := bk 0 i
def Bk.rT (bk : Bk) (i : Nat) : Nat := bk 1 i
def Bk.rM (bk : Bk) (i : Nat) : Nat := bk 2 i
def Bk.cK (bk : Bk) (i : Nat) : Nat := bk 3 i
def Bk.cW (bk : Bk) (i : Nat) : Nat := bk 4 i
def Bk.cS (bk : Bk) (i : Nat) : Nat := bk 5 i
def Bk.cH (bk : Bk) (i : Nat) : Nat := bk 6 i
def Bk.cU (bk : Bk) (i : Nat) : Nat := bk 7 i
def Bk.wK (bk : Bk) (i : Nat) : Nat := bk 8 i
def Bk.wC (bk : Bk) (i : Nat) : Nat := bk 9 i
def Bk.wM (bk : Bk) (i : Nat) : Nat := bk 10 i
def Bk.lo (bk : Bk) (i : Nat) : Nat := bk 11 i
def Bk.pr (bk : Bk) (i : Nat) : Nat := bk 12 i
def Bk.od (bk : Bk) (k m : Nat) : Nat := bk (13 + m) k
/-- how many rains, carts, works, lots, kinds -/
def Cn : Type := Nat × Nat × Nat × Nat × Nat
def Cn.r (c : Cn) : Nat := c.1
def Cn.c (c : Cn) : Nat := c.2.1
def Cn.w (c : Cn) : Nat := c.2.2.1
def Cn.l (c : Cn) : Nat := c.2.2.2.1
def Cn.k (c : Cn) : Nat := c.2.2.2.2
def CnB (cn : Cn) : Prop := cn.r ≤ 30 ∧ cn.c ≤ 8 ∧ cn.w ≤ 60 ∧ cn.l ≤ 40 ∧ cn.k ≤ 5
def CnLe (a b : Cn) : Prop := a.r ≤ b.r ∧ a.c ≤ b.c ∧ a.w ≤ b.w ∧ a.l ≤ b.l ∧ a.k ≤ b.k
def BkGood (bk : Bk) (cn : Cn) : Prop := (∀ r, r < cn.r → bk.rF r < 2 ^ 31 ∧ bk.rT r < 2 ^ 31 ∧ 1 ≤ bk.rM r ∧ bk.rM r ≤ 99) ∧ (∀ q, q < cn.c → bk.cK q ≤ 3 ∧ 1 ≤ bk.cW q ∧ bk.cW q ≤ 50 ∧ bk.cS q ≤ 999 ∧ bk.cH q < 64 ∧ bk.cU q ≤ 500) ∧ (∀ w, w < cn.w → bk.wK w ≤ 3 ∧ bk.wC w < 64 ∧ bk.wM w ≤ 999) ∧ (∀ l, l < cn.l → bk.lo l ≤ 99) ∧ (∀ k, k < cn.k → (1 ≤ bk.pr k ∧ bk.pr k ≤ 100) ∧ ∀ m, m < 4 → bk.od k m ≤ 99)
theorem BkGood.rM {bk : Bk} {cn : Cn} (h : BkGood bk cn) : ∀ r, r < cn.r → bk.rF r < 2 ^ 31 ∧ bk.rT r < 2 ^ 31 ∧ 1 ≤ bk.rM r ∧ bk.rM r ≤ 99 := h.1
theorem BkGood.c {bk : Bk} {cn : Cn} (h : BkGood bk cn) : ∀ q, q < cn.c → bk.cK q ≤ 3 ∧ 1 ≤ bk.cW q ∧ bk.cW q ≤ 50 ∧ bk.cS q ≤ 999 ∧ bk.cH q < 64 ∧ bk.cU q ≤ 500 := h.2.1
theorem BkGood.w {bk : Bk} {cn : Cn} (h : BkGood bk cn) : ∀ w, w < cn.w → bk.wK w ≤ 3 ∧ bk.wC w < 64 ∧ bk.wM w ≤ 999 := h.2.2.1
theorem BkGood.l {bk : Bk} {cn : Cn} (h : BkGood bk cn) : ∀ l, l < cn.l → bk.lo l ≤ 99 := h.2.2.2.1
theorem BkGood.k {bk : Bk} {cn : Cn} (h : BkGood bk cn) : ∀ k, k < cn.k → (1 ≤ bk.pr k ∧ bk.pr k ≤ 100) ∧ ∀ m, m < 4 → bk.od k m ≤ 99 := h.2.2.2.2
/-- the class's tables, of 'full' rows, hold the book as far as cn -/
def BkC (M : am_I) (bk : Bk) (cn full : Cn) : Prop := (CnLe cn full) ∧ (tabOK M 1 3 full.r) ∧ (tabOK M 2 5 full.c) ∧ (tabOK M 3 3 full.w) ∧ (tabOK M 4 6 full.k) ∧ (tabOK M 5 1 full.l) ∧ (∀ r, r < cn.r → M (2, 1, 1) (r * 3 + 0) = nI (bk.rF r) ∧ M (2, 1, 1) (r * 3 + 1) = nI (bk.rT r) ∧ M (2, 1, 1) (r * 3 + 2) = nI (bk.rM r)) ∧ (∀ q, q < cn.c → M (2, 2, 1) (q * 5 + 0) = nI (bk.cK q) ∧ M (2, 2, 1) (q * 5 + 1) = nI (bk.cW q) ∧ M (2, 2, 1) (q * 5 + 2) = nI (bk.cS q) ∧ M (2, 2, 1) (q * 5 + 3) = nI (bk.cH q) ∧ M (2, 2, 1) (q * 5 + 4) = nI (bk.cU q)) ∧ (∀ w, w < cn.w → M (2, 3, 1) (w * 3 + 0) = nI (bk.wK w) ∧ M (2, 3, 1) (w * 3 + 1) = nI (bk.wC w) ∧ M (2, 3, 1) (w * 3 + 2) = nI (bk.wM w)) ∧ (∀ l, l < cn.l → M (2, 5, 1) (l * 1 + 0) = nI (bk.lo l)) ∧ (∀ k, k < cn.k → M (2, 4, 1) (k * 6 + 1) = nI (bk.pr k) ∧ ∀ m, m < 4 → M (2, 4, 1) (k * 6 + (2 + m)) = nI (bk.od k m))
theorem BkC.le {M : am_I} {bk : Bk} {cn full : Cn} (h : BkC M bk cn full) : CnLe cn full := h.1
theorem BkC.t1 {M : am_I} {bk : Bk} {cn full : Cn} (h : BkC M bk cn full) : tabOK M 1 3 full.r := h.2.1
theorem BkC.t2 {M : am_I} {bk : Bk} {cn full : Cn} (h : BkC M bk cn full) : tabOK M 2 5 full.c := h.2.2.1
theorem BkC.t3 {M : am_I} {bk : Bk} {cn full : Cn} (h : BkC M bk cn full) : tabOK M 3 3 full.w := h.2.2.2.1
theorem BkC.t4 {M : am_I} {bk : Bk} {cn full : Cn} (h : BkC M bk cn full) : tabOK M 4 6 full.k := h.2.2.2.2.1
theorem BkC.t5 {M : am_I} {bk : Bk} {cn full : Cn} (h : BkC M bk cn full) : tabOK M 5 1 full.l := h.2.2.2.2.2.1
theorem BkC.r {M : am_I} {bk : Bk} {cn full : Cn} (h : BkC M bk cn full) : ∀ r, r < cn.r → M (2, 1, 1) (r * 3 + 0) = nI (bk.rF r) ∧ M (2, 1, 1) (r * 3 + 1) = nI (bk.rT r) ∧ M (2, 1, 1) (r * 3 + 2) = nI (bk.rM r) := h.2.2.2.2.2.2.1
theorem BkC.c {M : am_I} {bk : Bk} {cn full : Cn} (h : BkC M bk cn full) : ∀ q, q < cn.c → M (2, 2, 1) (q * 5 + 0) = nI (bk.cK q) ∧ M (2, 2, 1) (q * 5 + 1) = nI (bk.cW q) ∧ M (2, 2, 1) (q * 5 + 2) = nI (bk.cS q) ∧ M (2, 2, 1) (q * 5 + 3) = nI (bk.cH q) ∧ M (2, 2, 1) (q * 5 + 4) = nI (bk.cU q) := h.2.2.2.2.2.2.2.1
theorem BkC.w {M : am_I} {bk : Bk} {cn full : Cn} (h : BkC M bk cn full) : ∀ w, w < cn.w → M (2, 3, 1) (w * 3 + 0) = nI (bk.wK w) ∧ M (2, 3, 1) (w * 3 + 1) = nI (bk.wC w) ∧ M (2, 3, 1) (w * 3 + 2) = nI (bk.wM w) := h.2.2.2.2.2.2.2.2.1
theorem BkC.l {M : am_I} {bk : Bk} {cn full : Cn} (h : BkC M bk cn full) : ∀ l, l < cn.l → M (2, 5, 1) (l * 1 + 0) = nI (bk.lo l) := h.2.2.2.2.2.2.2.2.2.1
theorem BkC.k {M : am_I} {bk : Bk} {cn full : Cn} (h : BkC M bk cn full) : ∀ k, k < cn.k → M (2, 4, 1) (k * 6 + 1) = nI (bk.pr k) ∧ ∀ m, m < 4 → M (2, 4, 1) (k * 6 + (2 + m)) = nI (bk.od k m) := h.2.2.2.2.2.2.2.2.2.2
/-- the reference's rows hold the book as far as cn -/
def BkM (M : am_I) (bk : Bk) (cn : Cn) : Prop := (∀ r, r < cn.r → M (3, 0, 8) r = nI (bk.rF r) ∧ M (3, 0, 9) r = nI (bk.rT r) ∧ M (3, 0, 10) r = nI (bk.rM r)) ∧ (∀ q, q < cn.c → M (3, 0, 11) q = nI (bk.cK q) ∧ M (3, 0, 12) q = nI (bk.cW q) ∧ M (3, 0, 13) q = nI (bk.cS q) ∧ M (3, 0, 14) q = nI (bk.cH q) ∧ M (3, 0, 15) q = nI (bk.cU q)) ∧ (∀ w, w < cn.w → M (3, 0, 16) w = nI (bk.wK w) ∧ M (3, 0, 17) w = nI (bk.wC w) ∧ M (3, 0, 18) w = nI (bk.wM w)) ∧ (∀ l, l < cn.l → M (3, 0, 19) l = nI (bk.lo l)) ∧ (∀ k, k < cn.k → M (3, 0, 20) k = nI (bk.pr k) ∧ ∀ m, m < 4 → M (3, 0, 21) (4 * k + m) = nI (bk.od k m))
theorem BkM.r {M : am_I} {bk : Bk} {cn : Cn} (h : BkM M bk cn) : ∀ r, r < cn.r → M (3, 0, 8) r = nI (bk.rF r) ∧ M (3, 0, 9) r = nI (bk.rT r) ∧ M (3, 0, 10) r = nI (bk.rM r) := h.1
theorem BkM.c {M : am_I} {bk : Bk} {cn : Cn} (h : BkM M bk cn) : ∀ q, q < cn.c → M (3, 0, 11) q = nI (bk.cK q) ∧ M (3, 0, 12) q = nI (bk.cW q) ∧ M (3, 0, 13) q = nI (bk.cS q) ∧ M (3, 0, 14) q = nI (bk.cH q) ∧ M (3, 0, 15) q = nI (bk.cU q) := h.2.1
theorem BkM.w {M : am_I} {bk : Bk} {cn : Cn} (h : BkM M bk cn) : ∀ w, w < cn.w → M (3, 0, 16) w = nI (bk.wK w) ∧ M (3, 0, 17) w = nI (bk.wC w) ∧ M (3, 0, 18) w = nI (bk.wM w) := h.2.2.1
theorem BkM.l {M : am_I} {bk : Bk} {cn : Cn} (h : BkM M bk cn) : ∀ l, l < cn.l → M (3, 0, 19) l = nI (bk.lo l) := h.2.2.2.1
theorem BkM.k {M : am_I} {bk : Bk} {cn : Cn} (h : BkM M bk cn) : ∀ k, k < cn.k → M (3, 0, 20) k = nI (bk.pr k) ∧ ∀ m, m < 4 → M (3, 0, 21) (4 * k + m) = nI (bk.od k m) := h.2.2.2.2
/-- the groups of the relation: ground, plants, carts, works, the rest -/
def RG (hg we pr : Nat → Int32) (f : Nat → Int32) : Prop := (∀ c, c < 64 → hg c = f c) ∧ (∀ c, c < 64 → we c = f (64 + c)) ∧ (∀ c, c < 64 → pr c = f (128 + c))
theorem RG.hg {hg we pr : Nat → Int32} {f : Nat → Int32} (h : RG hg we pr f) : ∀ c, c < 64 → hg c = f c := h.1
theorem RG.we {hg we pr : Nat → Int32} {f : Nat → Int32} (h : RG hg we pr f) : ∀ c, c < 64 → we c = f (64 + c) := h.2.1
theorem RG.pr {hg we pr : Nat → Int32} {f : Nat → Int32} (h : RG hg we pr f) : ∀ c, c < 64 → pr c = f (128 + c) := h.2.2
def RP (st il : Int64) (sz se go sw ba sh : Nat → Int32) (nl : Int32) (f : Nat → Int32) : Prop := (∀ c, c < 64 → (tb st c = true ↔ f (192 + c) = 1)) ∧ (∀ c, c < 64 → (tb il c = true ↔ f (192 + c) = 1 ∧ f (320 + c) = 1)) ∧ (∀ c, c < 64 → f (192 + c) = 1 → sz c = f (256 + c) ∧ se c = f (384 + c) ∧ go c = f (448 + c)) ∧ (∀ c, c < 64 → f (192 + c) = 1 → ∀ k, k < 5 → sh (5 * c + k) = f (640 + 5 * c + k)) ∧ (∀ c, c < 64 → sw c = f (512 + c)) ∧ (∀ c, c < 64 → ba c = if f (192 + c) = 1 then 0 else f (576 + c)) ∧ (nl = f 1625)
theorem RP.st {st il : Int64} {sz se go sw ba sh : Nat → Int32} {nl : Int32} {f : Nat → Int32} (h : RP st il sz se go sw ba sh nl f) : ∀ c, c < 64 → (tb st c = true ↔ f (192 + c) = 1) := h.1
theorem RP.il {st il : Int64} {sz se go sw ba sh : Nat → Int32} {nl : Int32} {f : Nat → Int32} (h : RP st il sz se go sw ba sh nl f) : ∀ c, c < 64 → (tb il c = true ↔ f (192 + c) = 1 ∧ f (320 + c) = 1) := h.2.1
theorem RP.sz {st il : Int64} {sz se go sw ba sh : Nat → Int32} {nl : Int32} {f : Nat → Int32} (h : RP st il sz se go sw ba sh nl f) : ∀ c, c < 64 → f (192 + c) = 1 → sz c = f (256 + c) ∧ se c = f (384 + c) ∧ go c = f (448 + c) := h.2.2.1
theorem RP.sh {st il : Int64} {sz se go sw ba sh : Nat → Int32} {nl : Int32} {f : Nat → Int32} (h : RP st il sz se go sw ba sh nl f) : ∀ c, c < 64 → f (192 + c) = 1 → ∀ k, k < 5 → sh (5 * c + k) = f (640 + 5 * c + k) := h.2.2.2.1
theorem RP.sw {st il : Int64} {sz se go sw ba sh : Nat → Int32} {nl : Int32} {f : Nat → Int32} (h : RP st il sz se go sw ba sh nl f) : ∀ c, c < 64 → sw c = f (512 + c) := h.2.2.2.2.1
theorem RP.ba {st il : Int64} {sz se go sw ba sh : Nat → Int32} {nl : Int32} {f : Nat → Int32} (h : RP st il sz se go sw ba sh nl f) : ∀ c, c < 64 → ba c = if f (192 + c) = 1 then 0 else f (576 + c) := h.2.2.2.2.2.1
theorem RP.nl {st il : Int64} {sz se go sw ba sh : Nat → Int32} {nl : Int32} {f : Nat → Int32} (h : RP st il sz se go sw ba sh nl f) : nl = f 1625 := h.2.2.2.2.2.2
def RC (nc : Nat) (but : Nat → Nat → Prop) (pl po dg ta : Nat → Int32) (mp : Nat → Int64) (f : Nat → Int32) : Prop := (∀ q, q < nc → ¬ but 1 q → pl q = f (960 + q) ∧ po q = f (968 + q) ∧ dg q = f (976 + q) ∧ ta q = f (984 + q)) ∧ (∀ q, q < nc → ¬ but 1 q → ∀ c, c < 64 → (tb (mp q) c = true ↔ f (992 + 64 * q + c) = 1)) ∧ (∀ q, q < 8 → (nc ≤ q ∨ but 1 q) → dg q = 6) ∧ (∀ q, q < 8 → nc ≤ q → ta q = -1 ∧ mp q = 0)
theorem RC.on {nc : Nat} {but : Nat → Nat → Prop} {pl po dg ta : Nat → Int32} {mp : Nat → Int64} {f : Nat → Int32} (h : RC nc but pl po dg ta mp f) : ∀ q, q < nc → ¬ but 1 q → pl q = f (960 + q) ∧ po q = f (968 + q) ∧ dg q = f (976 + q) ∧ ta q = f (984 + q) := h.1
theorem RC.mp {nc : Nat} {but : Nat → Nat → Prop} {pl po dg ta : Nat → Int32} {mp : Nat → Int64} {f : Nat → Int32} (h : RC nc but pl po dg ta mp f) : ∀ q, q < nc → ¬ but 1 q → ∀ c, c < 64 → (tb (mp q) c = true ↔ f (992 + 64 * q + c) = 1) := h.2.1
theorem RC.off {nc : Nat} {but : Nat → Nat → Prop} {pl po dg ta : Nat → Int32} {mp : Nat → Int64} {f : Nat → Int32} (h : RC nc but pl po dg ta mp f) : ∀ q, q < 8 → (nc ≤ q ∨ but 1 q) → dg q = 6 := h.2.2.1
theorem RC.new {nc : Nat} {but : Nat → Nat → Prop} {pl po dg ta : Nat → Int32} {mp : Nat → Int64} {f : Nat → Int32} (h : RC nc but pl po dg ta mp f) : ∀ q, q < 8 → nc ≤ q → ta q = -1 ∧ mp q = 0 := h.2.2.2
def RK (nw : Nat) (ws wd : Nat → Int32) (f : Nat → Int32) : Prop := (∀ w, w < nw → ws w = f (1504 + w) ∧ wd w = f (1564 + w)) ∧ (∀ w, w < 60 → nw ≤ w → ws w = 3 ∧ wd w = -1)
theorem RK.on {nw : Nat} {ws wd : Nat → Int32} {f : Nat → Int32} (h : RK nw ws wd f) : ∀ w, w < nw → ws w = f (1504 + w) ∧ wd w = f (1564 + w) := h.1
theorem RK.new {nw : Nat} {ws wd : Nat → Int32} {f : Nat → Int32} (h : RK nw ws wd f) : ∀ w, w < 60 → nw ≤ w → ws w = 3 ∧ wd w = -1 := h.2
def RS (but : Nat → Nat → Prop) (se wo : Nat → Int32) (f : Nat → Int32) : Prop := (∀ i, i < 4 → se i = f (1626 + i)) ∧ (wo 8 = f 1624) ∧ (wo 10 = f 1634) ∧ (wo 11 = f 1633) ∧ (∀ k i, k < 3 → i < 64 → ((wo 12 = nI k ∧ wo 13 = nI i) ↔ but k i))
theorem RS.set {but : Nat → Nat → Prop} {se wo : Nat → Int32} {f : Nat → Int32} (h : RS but se wo f) : ∀ i, i < 4 → se i = f (1626 + i) := h.1
theorem RS.now {but : Nat → Nat → Prop} {se wo : Nat → Int32} {f : Nat → Int32} (h : RS but se wo f) : wo 8 = f 1624 := h.2.1
theorem RS.kt {but : Nat → Nat → Prop} {se wo : Nat → Int32} {f : Nat → Int32} (h : RS but se wo f) : wo 10 = f 1634 := h.2.2.1
theorem RS.lt {but : Nat → Nat → Prop} {se wo : Nat → Int32} {f : Nat → Int32} (h : RS but se wo f) : wo 11 = f 1633 := h.2.2.2.1
theorem RS.but {but : Nat → Nat → Prop} {se wo : Nat → Int32} {f : Nat → Int32} (h : RS but se wo f) : ∀ k i, k < 3 → i < 64 → ((wo 12 = nI k ∧ wo 13 = nI i) ↔ but k i) := h.2.2.2.2
def RelW (b : Nat) (cn : Cn) (but : Nat → Nat → Prop) (M : am_I) (N : am_N) (f : Nat → Int32) (fe lo : Int64) : Prop := (RG (M (1, b, 2)) (M (1, b, 3)) (M (1, b, 4)) f) ∧ (RP (N (1, b, 6) 8) (N (1, b, 6) 9) (M (1, b, 7)) (M (1, b, 8)) (M (1, b, 9)) (M (1, b, 10)) (M (1, b, 11)) (M (1, b, 12)) (M (1, b, 6) 10) f) ∧ (RC cn.c but (M (1, b, 15)) (M (1, b, 16)) (M (1, b, 17)) (M (1, b, 18)) (N (1, b, 19)) f) ∧ (RK cn.w (M (1, b, 20)) (M (1, b, 21)) f) ∧ (RS but (M (1, b, 22)) (M (1, b, 0)) f) ∧ (N (1, b, 1) 4 = fe) ∧ (N (1, b, 1) 5 = lo)
theorem RelW.g {b : Nat} {cn : Cn} {but : Nat → Nat → Prop} {M : am_I} {N : am_N} {f : Nat → Int32} {fe lo : Int64} (h : RelW b cn but M N f fe lo) : RG (M (1, b, 2)) (M (1, b, 3)) (M (1, b, 4)) f := h.1
theorem RelW.p {b : Nat} {cn : Cn} {but : Nat → Nat → Prop} {M : am_I} {N : am_N} {f : Nat → Int32} {fe lo : Int64} (h : RelW b cn but M N f fe lo) : RP (N (1, b, 6) 8) (N (1, b, 6) 9) (M (1, b, 7)) (M (1, b, 8)) (M (1, b, 9)) (M (1, b, 10)) (M (1, b, 11)) (M (1, b, 12)) (M (1, b, 6) 10) f := h.2.1
theorem RelW.c {b : Nat} {cn : Cn} {but : Nat → Nat → Prop} {M : am_I} {N : am_N} {f : Nat → Int32} {fe lo : Int64} (h : RelW b cn but M N f fe lo) : RC cn.c but (M (1, b, 15)) (M (1, b, 16)) (M (1, b, 17)) (M (1, b, 18)) (N (1, b, 19)) f := h.2.2.1
theorem RelW.k {b : Nat} {cn : Cn} {but : Nat → Nat → Prop} {M : am_I} {N : am_N} {f : Nat → Int32} {fe lo : Int64} (h : RelW b cn but M N f fe lo) : RK cn.w (M (1, b, 20)) (M (1, b, 21)) f := h.2.2.2.1
theorem RelW.s {b : Nat} {cn : Cn} {but : Nat → Nat → Prop} {M : am_I} {N : am_N} {f : Nat → Int32} {fe lo : Int64} (h : RelW b cn but M N f fe lo) : RS but (M (1, b, 22)) (M (1, b, 0)) f := h.2.2.2.2.1
theorem RelW.fe {b : Nat} {cn : Cn} {but : Nat → Nat → Prop} {M : am_I} {N : am_N} {f : Nat → Int32} {fe lo : Int64} (h : RelW b cn but M N f fe lo) : N (1, b, 1) 4 = fe := h.2.2.2.2.2.1
theorem RelW.lo {b : Nat} {cn : Cn} {but : Nat → Nat → Prop} {M : am_I} {N : am_N} {f : Nat → Int32} {fe lo : Int64} (h : RelW b cn but M N f fe lo) : N (1, b, 1) 5 = lo := h.2.2.2.2.2.2
/-- the reference's field is in order -/
def GG (W : Nat) (f : Nat → Int32) : Prop := (∃ t : Nat → Nat, (∀ c, c < 64 → f (64 + c) = nI (t c)) ∧ sumN t 64 ≤ W) ∧ (∀ c, c < 64 → ∃ t, t ≤ 9999 ∧ f (128 + c) = nI t) ∧ (∃ t, t ≤ 9999 ∧ f 1626 = nI t)
theorem GG.we {W : Nat} {f : Nat → Int32} (h : GG W f) : ∃ t : Nat → Nat, (∀ c, c < 64 → f (64 + c) = nI (t c)) ∧ sumN t 64 ≤ W := h.1
theorem GG.pr {W : Nat} {f : Nat → Int32} (h : GG W f) : ∀ c, c < 64 → ∃ t, t ≤ 9999 ∧ f (128 + c) = nI t := h.2.1
theorem GG.li {W : Nat} {f : Nat → Int32} (h : GG W f) : ∃ t, t ≤ 9999 ∧ f 1626 = nI t := h.2.2
def GP (cn : Cn) (f : Nat → Int32) : Prop := (∀ c, c < 64 → f (192 + c) = 0 ∨ f (192 + c) = 1) ∧ (∀ c, c < 64 → f (320 + c) = 0 ∨ f (320 + c) = 1) ∧ (∀ c, c < 64 → ∀ k, k < 5 → cn.k ≤ k → f (640 + 5 * c + k) = 0) ∧ (∃ j, f 1625 = nI j ∧ (j < cn.l ∨ j = 0))
theorem GP.st {cn : Cn} {f : Nat → Int32} (h : GP cn f) : ∀ c, c < 64 → f (192 + c) = 0 ∨ f (192 + c) = 1 := h.1
theorem GP.il {cn : Cn} {f : Nat → Int32} (h : GP cn f) : ∀ c, c < 64 → f (320 + c) = 0 ∨ f (320 + c) = 1 := h.2.1
theorem GP.sh {cn : Cn} {f : Nat → Int32} (h : GP cn f) : ∀ c, c < 64 → ∀ k, k < 5 → cn.k ≤ k → f (640 + 5 * c + k) = 0 := h.2.2.1
theorem GP.nl {cn : Cn} {f : Nat → Int32} (h : GP cn f) : ∃ j, f 1625 = nI j ∧ (j < cn.l ∨ j = 0) := h.2.2.2
def GC (cn : Cn) (f : Nat → Int32) : Prop := (∀ q, q < cn.c → ∃ s, s < 64 ∧ f (960 + q) = nI s) ∧ (∀ q, q < cn.c → ¬ f (976 + q) = 6) ∧ (∀ q, q < cn.c → f (976 + q) = 1 → ∃ w, w < cn.w ∧ f (984 + q) = nI w) ∧ (∀ q, q < cn.c → ¬ f (976 + q) = 1 → f (984 + q) = -1) ∧ (∀ q, q < 8 → ∀ c, c < 64 → f (992 + 64 * q + c) = 0 ∨ f (992 + 64 * q + c) = 1) ∧ (∀ q, q < 8 → cn.c ≤ q → f (976 + q) = 0 ∧ ∀ c, c < 64 → f (992 + 64 * q + c) = 0)
theorem GC.sp {cn : Cn} {f : Nat → Int32} (h : GC cn f) : ∀ q, q < cn.c → ∃ s, s < 64 ∧ f (960 + q) = nI s := h.1
theorem GC.ne6 {cn : Cn} {f : Nat → Int32} (h : GC cn f) : ∀ q, q < cn.c → ¬ f (976 + q) = 6 := h.2.1
theorem GC.it1 {cn : Cn} {f : Nat → Int32} (h : GC cn f) : ∀ q, q < cn.c → f (976 + q) = 1 → ∃ w, w < cn.w ∧ f (984 + q) = nI w := h.2.2.1
theorem GC.it0 {cn : Cn} {f : Nat → Int32} (h : GC cn f) : ∀ q, q < cn.c → ¬ f (976 + q) = 1 → f (984 + q) = -1 := h.2.2.2.1
theorem GC.mp {cn : Cn} {f : Nat → Int32} (h : GC cn f) : ∀ q, q < 8 → ∀ c, c < 64 → f (992 + 64 * q + c) = 0 ∨ f (992 + 64 * q + c) = 1 := h.2.2.2.2.1
theorem GC.new {cn : Cn} {f : Nat → Int32} (h : GC cn f) : ∀ q, q < 8 → cn.c ≤ q → f (976 + q) = 0 ∧ ∀ c, c < 64 → f (992 + 64 * q + c) = 0 := h.2.2.2.2.2
def GN (cn : Cn) (f : Nat → Int32) : Prop := (f 1630 = nI cn.r) ∧ (f 1631 = nI cn.c) ∧ (f 1632 = nI cn.w) ∧ (f 1633 = nI cn.l) ∧ (f 1634 = nI cn.k)
theorem GN.r {cn : Cn} {f : Nat → Int32} (h : GN cn f) : f 1630 = nI cn.r := h.1
theorem GN.c {cn : Cn} {f : Nat → Int32} (h : GN cn f) : f 1631 = nI cn.c := h.2.1
theorem GN.w {cn : Cn} {f : Nat → Int32} (h : GN cn f) : f 1632 = nI cn.w := h.2.2.1
theorem GN.l {cn : Cn} {f : Nat → Int32} (h : GN cn f) : f 1633 = nI cn.l := h.2.2.2.1
theorem GN.k {cn : Cn} {f : Nat → Int32} (h : GN cn f) : f 1634 = nI cn.k := h.2.2.2.2
def GoodF (W : Nat) (cn : Cn) (f : Nat → Int32) : Prop := (CnB cn) ∧ (W < 2 ^ 31) ∧ (GG W f) ∧ (GP cn f) ∧ (GC cn f) ∧ (GN cn f)
theorem GoodF.b {W : Nat} {cn : Cn} {f : Nat → Int32} (h : GoodF W cn f) : CnB cn := h.1
theorem GoodF.W {W : Nat} {cn : Cn} {f : Nat → Int32} (h : GoodF W cn f) : W < 2 ^ 31 := h.2.1
theorem GoodF.g {W : Nat} {cn : Cn} {f : Nat → Int32} (h : GoodF W cn f) : GG W f := h.2.2.1
theorem GoodF.p {W : Nat} {cn : Cn} {f : Nat → Int32} (h : GoodF W cn f) : GP cn f := h.2.2.2.1
theorem GoodF.c {W : Nat} {cn : Cn} {f : Nat → Int32} (h : GoodF W cn f) : GC cn f := h.2.2.2.2.1
theorem GoodF.n {W : Nat} {cn : Cn} {f : Nat → Int32} (h : GoodF W cn f) : GN cn f := h.2.2.2.2.2
section RR
variable {f f' : Nat → Int32} {cn : Cn} {but : Nat → Nat → Prop} {W : Nat}
theorem RG.cg {hg we pr : Nat → Int32} (R : RG hg we pr f) (e : ∀ i, i < 192 → f' i = f i) : RG hg we pr f' :=
  ⟨fun c hc => by rw [e _ (by omega)]; exact R.hg c hc, fun c hc => by rw [e _ (by omega)]; exact R.we c hc, fun c hc => by rw [e _ (by omega)]; exact R.pr c hc⟩
theorem RP.cg {st il : Int64} {sz se go sw ba sh : Nat → Int32} {nl : Int32} (R : RP st il sz se go sw ba sh nl f) (e : ∀ i, 192 ≤ i → i < 960 → f' i = f i) (e2 : f' 1625 = f 1625) : RP st il sz se go sw ba sh nl f' := by
  refine ⟨?_, ?_, ?_, ?_, ?_, ?_, ?_⟩
  · exact fun c hc => by rw [e _ (by omega) (by omega)]; exact R.st c hc
  · exact fun c hc => by rw [e _ (by omega) (by omega), e _ (by omega) (by omega)]; exact R.il c hc
  · exact fun c hc => by rw [e _ (by omega) (by omega), e _ (by omega) (by omega), e _ (by omega) (by omega), e _ (by omega) (by omega)]; exact R.sz c hc
  · exact fun c hc h k hk => by rw [e _ (by omega) (by omega)] at h; rw [e _ (by omega) (by omega)]; exact R.sh c hc h k hk
  · exact fun c hc => by rw [e _ (by omega) (by omega)]; exact R.sw c hc
  · exact fun c hc => by rw [e _ (by omega) (by omega), e _ (by omega) (by omega)]; exact R.ba c hc
  · exact by rw [e2]; exact R.nl
theorem RC.cg {nc : Nat} {pl po dg ta : Nat → Int32} {mp : Nat → Int64} (hnc : nc ≤ 8) (R : RC nc but pl po dg ta mp f) (e : ∀ i, 960 ≤ i → i < 1504 → f' i = f i) : RC nc but pl po dg ta mp f' := by
  refine ⟨?_, ?_, ?_, ?_⟩
  · exact fun q hq hb => by rw [e _ (by omega) (by omega), e _ (by omega) (by omega), e _ (by omega) (by omega), e _ (by omega) (by omega)]; exact R.on q hq hb
  · exact fun q hq hb c hc => by rw [e _ (by omega) (by omega)]; exact R.mp q hq hb c hc
  · exact R.off
  · exact R.new
theorem RK.cg {nw : Nat} {ws wd : Nat → Int32} (hnw : nw ≤ 60) (R : RK nw ws wd f) (e : ∀ i, 1504 ≤ i → i < 1624 → f' i = f i) : RK nw ws wd f' := by
  refine ⟨?_, ?_⟩
  · exact fun w hw => by rw [e _ (by omega) (by omega), e _ (by omega) (by omega)]; exact R.on w hw
  · exact R.new
theorem RS.cg {se wo : Nat → Int32} (R : RS but se wo f) (e : ∀ i, 1624 ≤ i → i < 1635 → i ≠ 1625 → f' i = f i) : RS but se wo f' := by
  refine ⟨?_, ?_, ?_, ?_, ?_⟩
  · exact fun i hi => by rw [e _ (by omega) (by omega) (by omega)]; exact R.set i hi
  · exact by rw [e _ (by omega) (by omega) (by omega)]; exact R.now
  · exact by rw [e _ (by omega) (by omega) (by omega)]; exact R.kt
  · exact by rw [e _ (by omega) (by omega) (by omega)]; exact R.lt
  · exact R.but
theorem GG.cg (R : GG W f) (e : ∀ i, 64 ≤ i → i < 192 → f' i = f i) (e2 : f' 1626 = f 1626) : GG W f' := by
  refine ⟨?_, ?_, ?_⟩
  · exact by
      obtain ⟨t, h1, h2⟩ := R.we
      exact ⟨t, fun c hc => by rw [e _ (by omega) (by omega)]; exact h1 c hc, h2⟩
  · exact fun c hc => by rw [e _ (by omega) (by omega)]; exact R.pr c hc
  · exact by rw [e2]; exact R.li
theorem GP.cg (R : GP cn f) (e : ∀ i, 192 ≤ i → i < 960 → f' i = f i) (e2 : f' 1625 = f 1625) : GP cn f' := by
  refine ⟨?_, ?_, ?_, ?_⟩
  · exact fun c hc => by rw [e _ (by omega) (by omega)]; exact R.st c hc
  · exact fun c hc => by rw [e _ (by omega) (by omega)]; exact R.il c hc
  · exact fun c hc k hk h => by rw [e _ (by omega) (by omega)]; exact R.sh c hc k hk h
  · exact by rw [e2]; exact R.nl
theorem GC.cg (hc8 : cn.c ≤ 8) (R : GC cn f) (e : ∀ i, 960 ≤ i → i < 1504 → f' i = f i) : GC cn f' := by
  refine ⟨?_, ?_, ?_, ?_, ?_, ?_⟩
  · exact fun q hq => by rw [e _ (by omega) (by omega)]; exact R.sp q hq
  · exact fun q hq => by rw [e _ (by omega) (by omega)]; exact R.ne6 q hq
  · exact fun q hq => by rw [e _ (by omega) (by omega), e _ (by omega) (by omega)]; exact R.it1 q hq
  · exact fun q hq => by rw [e _ (by omega) (by omega), e _ (by omega) (by omega)]; exact R.it0 q hq
  · exact fun q hq c hc => by rw [e _ (by omega) (by omega)]; exact R.mp q hq c hc
  · exact fun q hq h => by
      rw [e _ (by omega) (by omega)]
      exact ⟨(R.new q hq h).1, fun c hc => by rw [e _ (by omega) (by omega)]; exact (R.new q hq h).2 c hc⟩
theorem GN.cg (R : GN cn f) (e : ∀ i, 1630 ≤ i → i < 1635 → f' i = f i) : GN cn f' := ⟨by rw [e _ (by omega) (by omega)]; exact R.r, by rw [e _ (by omega) (by omega)]; exact R.c, by rw [e _ (by omega) (by omega)]; exact R.w, by rw [e _ (by omega) (by omega)]; exact R.l, by rw [e _ (by omega) (by omega)]; exact R.k⟩
end RR
/-- what a step of world b leaves alone -/
def FrB (b : Nat) (M : am_I) (N : am_N) (M' : am_I) (N' : am_N) : Prop := (∀ c : am_C, ¬ (c.1 = 1 ∧ c.2.1 = b) → ¬ (c.1 = 0 ∧ 2 ≤ c.2.2 ∧ c.2.2 ≤ 6) → M' c = M c ∧ N' c = N c) ∧ M' (1, b, 0) 12 = M (1, b, 0) 12 ∧ M' (1, b, 0) 13 = M (1, b, 0) 13
def Fr (b : Nat) (M : am_I) (N : am_N) (M' : am_I) (N' : am_N) : Prop := FrB b M N M' N' ∧ M' (1, b, 0) 9 = M (1, b, 0) 9
theorem FrB.rf {b : Nat} {M : am_I} {N : am_N} : FrB b M N M N := ⟨fun _ _ _ => ⟨rfl, rfl⟩, rfl, rfl⟩
theorem Fr.rf {b : Nat} {M : am_I} {N : am_N} : Fr b M N M N := ⟨FrB.rf, rfl⟩
theorem FrB.tr {b : Nat} {M M' M'' : am_I} {N N' N'' : am_N} (h1 : FrB b M N M' N') (h2 : FrB b M' N' M'' N'') : FrB b M N M'' N'' :=
  ⟨fun c a1 a2 => ⟨((h2.1 c a1 a2).1).trans ((h1.1 c a1 a2).1), ((h2.1 c a1 a2).2).trans ((h1.1 c a1 a2).2)⟩, h2.2.1.trans h1.2.1, h2.2.2.trans h1.2.2⟩
theorem Fr.tr {b : Nat} {M M' M'' : am_I} {N N' N'' : am_N} (h1 : Fr b M N M' N') (h2 : Fr b M' N' M'' N'') : Fr b M N M'' N'' := ⟨h1.1.tr h2.1, h2.2.trans h1.2⟩
theorem FrB.tab {b : Nat} {M M' : am_I} {N N' : am_N} (h : FrB b M N M' N') (t i : Nat) : M' (2, t, i) = M (2, t, i) := (h.1 (2, t, i) (fun z => by simp at z) (fun z => by simp at z)).1
theorem FrB.ref {b : Nat} {M M' : am_I} {N N' : am_N} (h : FrB b M N M' N') (t i : Nat) : M' (3, t, i) = M (3, t, i) ∧ N' (3, t, i) = N (3, t, i) := h.1 (3, t, i) (fun z => by simp at z) (fun z => by simp at z)
theorem tabOK.cg {M M' : am_I} {t w n : Nat} (h : tabOK M t w n) (e : M' (2, t, 0) = M (2, t, 0)) : tabOK M' t w n := by
  unfold tabOK at h ⊢
  rw [e]
  exact h
theorem BkC.cg {M M' : am_I} {bk : Bk} {cn full : Cn} (h : BkC M bk cn full) (e : ∀ t i, M' (2, t, i) = M (2, t, i)) : BkC M' bk cn full := by
  refine ⟨?_, ?_, ?_, ?_, ?_, ?_, ?_, ?_, ?_, ?_, ?_⟩
  · exact h.le
  · exact h.t1.cg (e _ _)
  · exact h.t2.cg (e _ _)
  · exact h.t3.cg (e _ _)
  · exact h.t4.cg (e _ _)
  · exact h.t5.cg (e _ _)
  · exact fun r hr => by rw [e]; exact h.r r hr
  · exact fun r hr => by rw [e]; exact h.c r hr
  · exact fun r hr => by rw [e]; exact h.w r hr
  · exact fun r hr => by rw [e]; exact h.l r hr
  · exact fun r hr => by rw [e]; exact h.k r hr
theorem am_s_if {α : Type} (M : am_C → Nat → α) (c : am_C) (f : Nat → α) (c' : am_C) : am_s M c f c' = if c' = c then f else M c' := rfl
