/-! what lies where: an object, and all that is made with it, one behind the other -/
def dzo (x : Int32) : Nat := if x.toNatClampNeg < 9 then x.toNatClampNeg else 0
def sh7 (kad : Nat → Nat) (Z : AZ) (a : Nat) : Prop := Z.1 a = some (7, 6) ∧ (∀ x, Z.2.1 a 0 x = kad (dzo x)) ∧ (∀ j, j < 9 → Z.2.2 a 0 (kad j) = Int32.ofNat j)
theorem sh7_z {kad : Nat → Nat} {Z : AZ} {a : Nat} (h : sh7 kad Z a) : Z.1 a = some (7, 6) := h.1
theorem sh7_d {kad : Nat → Nat} {Z : AZ} {a : Nat} (h : sh7 kad Z a) : ∀ x, Z.2.1 a 0 x = kad (dzo x) := h.2.1
theorem sh7_c {kad : Nat → Nat} {Z : AZ} {a : Nat} (h : sh7 kad Z a) : ∀ j, j < 9 → Z.2.2 a 0 (kad j) = Int32.ofNat j := h.2.2
def sh0 (kad : Nat → Nat) (Z : AZ) (a : Nat) : Prop := Z.1 a = some (0, 16) ∧ (∀ x, Z.2.1 a 1 x = a + 1) ∧ Z.1 (a + 1) = some (100, 256) ∧ (∀ x, Z.2.1 a 2 x = a + 2) ∧ Z.1 (a + 2) = some (104, 100) ∧ (∀ j, j < 100 → ∀ x, Z.2.1 (a + 2) j x = a + (12 + j)) ∧ (∀ j, j < 100 → sh7 kad Z (a + (12 + j))) ∧ (∀ x, Z.2.1 a 3 x = a + 3) ∧ Z.1 (a + 3) = some (100, 5) ∧ (∀ x, Z.2.1 a 4 x = a + 4) ∧ Z.1 (a + 4) = some (100, 5) ∧ (∀ x, Z.2.1 a 5 x = a + 5) ∧ Z.1 (a + 5) = some (101, 5) ∧ (∀ x, Z.2.1 a 6 x = a + 6) ∧ Z.1 (a + 6) = some (100, 1220) ∧ (∀ x, Z.2.1 a 7 x = a + 7) ∧ Z.1 (a + 7) = some (100, 1220) ∧ (∀ x, Z.2.1 a 8 x = a + 8) ∧ Z.1 (a + 8) = some (100, 301) ∧ (∀ x, Z.2.1 a 9 x = a + 9) ∧ Z.1 (a + 9) = some (100, 301) ∧ (∀ x, Z.2.1 a 10 x = a + 10) ∧ Z.1 (a + 10) = some (100, 2) ∧ (∀ x, Z.2.1 a 11 x = a + 11) ∧ Z.1 (a + 11) = some (100, 2)
theorem sh0_z {kad : Nat → Nat} {Z : AZ} {a : Nat} (h : sh0 kad Z a) : Z.1 a = some (0, 16) := h.1
theorem sh0_r1 {kad : Nat → Nat} {Z : AZ} {a : Nat} (h : sh0 kad Z a) : ∀ x, Z.2.1 a 1 x = a + 1 := h.2.1
theorem sh0_a1 {kad : Nat → Nat} {Z : AZ} {a : Nat} (h : sh0 kad Z a) : Z.1 (a + 1) = some (100, 256) := h.2.2.1
theorem sh0_r2 {kad : Nat → Nat} {Z : AZ} {a : Nat} (h : sh0 kad Z a) : ∀ x, Z.2.1 a 2 x = a + 2 := h.2.2.2.1
theorem sh0_a2 {kad : Nat → Nat} {Z : AZ} {a : Nat} (h : sh0 kad Z a) : Z.1 (a + 2) = some (104, 100) := h.2.2.2.2.1
theorem sh0_e2 {kad : Nat → Nat} {Z : AZ} {a : Nat} (h : sh0 kad Z a) : ∀ j, j < 100 → ∀ x, Z.2.1 (a + 2) j x = a + (12 + j) := h.2.2.2.2.2.1
theorem sh0_f2 {kad : Nat → Nat} {Z : AZ} {a : Nat} (h : sh0 kad Z a) : ∀ j, j < 100 → sh7 kad Z (a + (12 + j)) := h.2.2.2.2.2.2.1
theorem sh0_r3 {kad : Nat → Nat} {Z : AZ} {a : Nat} (h : sh0 kad Z a) : ∀ x, Z.2.1 a 3 x = a + 3 := h.2.2.2.2.2.2.2.1
theorem sh0_a3 {kad : Nat → Nat} {Z : AZ} {a : Nat} (h : sh0 kad Z a) : Z.1 (a + 3) = some (100, 5) := h.2.2.2.2.2.2.2.2.1
theorem sh0_r4 {kad : Nat → Nat} {Z : AZ} {a : Nat} (h : sh0 kad Z a) : ∀ x, Z.2.1 a 4 x = a + 4 := h.2.2.2.2.2.2.2.2.2.1
theorem sh0_a4 {kad : Nat → Nat} {Z : AZ} {a : Nat} (h : sh0 kad Z a) : Z.1 (a + 4) = some (100, 5) := h.2.2.2.2.2.2.2.2.2.2.1
theorem sh0_r5 {kad : Nat → Nat} {Z : AZ} {a : Nat} (h : sh0 kad Z a) : ∀ x, Z.2.1 a 5 x = a + 5 := h.2.2.2.2.2.2.2.2.2.2.2.1
theorem sh0_a5 {kad : Nat → Nat} {Z : AZ} {a : Nat} (h : sh0 kad Z a) : Z.1 (a + 5) = some (101, 5) := h.2.2.2.2.2.2.2.2.2.2.2.2.1
theorem sh0_r6 {kad : Nat → Nat} {Z : AZ} {a : Nat} (h : sh0 kad Z a) : ∀ x, Z.2.1 a 6 x = a + 6 := h.2.2.2.2.2.2.2.2.2.2.2.2.2.1
theorem sh0_a6 {kad : Nat → Nat} {Z : AZ} {a : Nat} (h : sh0 kad Z a) : Z.1 (a + 6) = some (100, 1220) := h.2.2.2.2.2.2.2.2.2.2.2.2.2.2.1
theorem sh0_r7 {kad : Nat → Nat} {Z : AZ} {a : Nat} (h : sh0 kad Z a) : ∀ x, Z.2.1 a 7 x = a + 7 := h.2.2.2.2.2.2.2.2.2.2.2.2.2.2.2.1
theorem sh0_a7 {kad : Nat → Nat} {Z : AZ} {a : Nat} (h : sh0 kad Z a) : Z.1 (a + 7) = some (100, 1220) := h.2.2.2.2.2.2.2.2.2.2.2.2.2.2.2.2.1
theorem sh0_r8 {kad : Nat → Nat} {Z : AZ} {a : Nat} (h : sh0 kad Z a) : ∀ x, Z.2.1 a 8 x = a + 8 := h.2.2.2.2.2.2.2.2.2.2.2.2.2.2.2.2.2.1
theorem sh0_a8 {kad : Nat → Nat} {Z : AZ} {a : Nat} (h : sh0 kad Z a) : Z.1 (a + 8) = some (100, 301) := h.2.2.2.2.2.2.2.2.2.2.2.2.2.2.2.2.2.2.1
theorem sh0_r9 {kad : Nat → Nat} {Z : AZ} {a : Nat} (h : sh0 kad Z a) : ∀ x, Z.2.1 a 9 x = a + 9 := h.2.2.2.2.2.2.2.2.2.2.2.2.2.2.2.2.2.2.2.1
theorem sh0_a9 {kad : Nat → Nat} {Z : AZ} {a : Nat} (h : sh0 kad Z a) : Z.1 (a + 9) = some (100, 301) := h.2.2.2.2.2.2.2.2.2.2.2.2.2.2.2.2.2.2.2.2.1
theorem sh0_r10 {kad : Nat → Nat} {Z : AZ} {a : Nat} (h : sh0 kad Z a) : ∀ x, Z.2.1 a 10 x = a + 10 := h.2.2.2.2.2.2.2.2.2.2.2.2.2.2.2.2.2.2.2.2.2.1
theorem sh0_a10 {kad : Nat → Nat} {Z : AZ} {a : Nat} (h : sh0 kad Z a) : Z.1 (a + 10) = some (100, 2) := h.2.2.2.2.2.2.2.2.2.2.2.2.2.2.2.2.2.2.2.2.2.2.1
theorem sh0_r11 {kad : Nat → Nat} {Z : AZ} {a : Nat} (h : sh0 kad Z a) : ∀ x, Z.2.1 a 11 x = a + 11 := h.2.2.2.2.2.2.2.2.2.2.2.2.2.2.2.2.2.2.2.2.2.2.2.1
theorem sh0_a11 {kad : Nat → Nat} {Z : AZ} {a : Nat} (h : sh0 kad Z a) : Z.1 (a + 11) = some (100, 2) := h.2.2.2.2.2.2.2.2.2.2.2.2.2.2.2.2.2.2.2.2.2.2.2.2
def sh1 (kad : Nat → Nat) (Z : AZ) (a : Nat) : Prop := Z.1 a = some (1, 2) ∧ (∀ x, Z.2.1 a 0 x = a + 1) ∧ Z.1 (a + 1) = some (100, 256) ∧ (∀ x, Z.2.1 a 1 x = a + 2) ∧ Z.1 (a + 2) = some (101, 32)
theorem sh1_z {kad : Nat → Nat} {Z : AZ} {a : Nat} (h : sh1 kad Z a) : Z.1 a = some (1, 2) := h.1
theorem sh1_r0 {kad : Nat → Nat} {Z : AZ} {a : Nat} (h : sh1 kad Z a) : ∀ x, Z.2.1 a 0 x = a + 1 := h.2.1
theorem sh1_a0 {kad : Nat → Nat} {Z : AZ} {a : Nat} (h : sh1 kad Z a) : Z.1 (a + 1) = some (100, 256) := h.2.2.1
theorem sh1_r1 {kad : Nat → Nat} {Z : AZ} {a : Nat} (h : sh1 kad Z a) : ∀ x, Z.2.1 a 1 x = a + 2 := h.2.2.2.1
theorem sh1_a1 {kad : Nat → Nat} {Z : AZ} {a : Nat} (h : sh1 kad Z a) : Z.1 (a + 2) = some (101, 32) := h.2.2.2.2
def sh4 (kad : Nat → Nat) (Z : AZ) (a : Nat) : Prop := Z.1 a = some (4, 4) ∧ (∀ x, Z.2.1 a 2 x = a + 1) ∧ Z.1 (a + 1) = some (100, 3) ∧ (∀ x, Z.2.1 a 3 x = a + 2) ∧ Z.1 (a + 2) = some (100, 24)
theorem sh4_z {kad : Nat → Nat} {Z : AZ} {a : Nat} (h : sh4 kad Z a) : Z.1 a = some (4, 4) := h.1
theorem sh4_r2 {kad : Nat → Nat} {Z : AZ} {a : Nat} (h : sh4 kad Z a) : ∀ x, Z.2.1 a 2 x = a + 1 := h.2.1
theorem sh4_a2 {kad : Nat → Nat} {Z : AZ} {a : Nat} (h : sh4 kad Z a) : Z.1 (a + 1) = some (100, 3) := h.2.2.1
theorem sh4_r3 {kad : Nat → Nat} {Z : AZ} {a : Nat} (h : sh4 kad Z a) : ∀ x, Z.2.1 a 3 x = a + 2 := h.2.2.2.1
theorem sh4_a3 {kad : Nat → Nat} {Z : AZ} {a : Nat} (h : sh4 kad Z a) : Z.1 (a + 2) = some (100, 24) := h.2.2.2.2
def sh2 (kad : Nat → Nat) (Z : AZ) (a : Nat) : Prop := Z.1 a = some (2, 16) ∧ (∀ x, Z.2.1 a 14 x = a + 1) ∧ Z.1 (a + 1) = some (100, 4) ∧ (∀ x, Z.2.1 a 15 x = a + 2) ∧ sh4 kad Z (a + 2)
theorem sh2_z {kad : Nat → Nat} {Z : AZ} {a : Nat} (h : sh2 kad Z a) : Z.1 a = some (2, 16) := h.1
theorem sh2_r14 {kad : Nat → Nat} {Z : AZ} {a : Nat} (h : sh2 kad Z a) : ∀ x, Z.2.1 a 14 x = a + 1 := h.2.1
theorem sh2_a14 {kad : Nat → Nat} {Z : AZ} {a : Nat} (h : sh2 kad Z a) : Z.1 (a + 1) = some (100, 4) := h.2.2.1
theorem sh2_r15 {kad : Nat → Nat} {Z : AZ} {a : Nat} (h : sh2 kad Z a) : ∀ x, Z.2.1 a 15 x = a + 2 := h.2.2.2.1
theorem sh2_s15 {kad : Nat → Nat} {Z : AZ} {a : Nat} (h : sh2 kad Z a) : sh4 kad Z (a + 2) := h.2.2.2.2
def sh3 (kad : Nat → Nat) (Z : AZ) (a : Nat) : Prop := Z.1 a = some (3, 2) ∧ (∀ x, Z.2.1 a 0 x = a + 1) ∧ Z.1 (a + 1) = some (100, 256)
theorem sh3_z {kad : Nat → Nat} {Z : AZ} {a : Nat} (h : sh3 kad Z a) : Z.1 a = some (3, 2) := h.1
theorem sh3_r0 {kad : Nat → Nat} {Z : AZ} {a : Nat} (h : sh3 kad Z a) : ∀ x, Z.2.1 a 0 x = a + 1 := h.2.1
theorem sh3_a0 {kad : Nat → Nat} {Z : AZ} {a : Nat} (h : sh3 kad Z a) : Z.1 (a + 1) = some (100, 256) := h.2.2
def sh5 (kad : Nat → Nat) (Z : AZ) (a : Nat) : Prop := Z.1 a = some (5, 6) ∧ (∀ x, Z.2.1 a 0 x = a + 1) ∧ sh2 kad Z (a + 1) ∧ (∀ x, Z.2.1 a 2 x = a + 6) ∧ Z.1 (a + 6) = some (100, 2) ∧ (∀ x, Z.2.1 a 3 x = a + 7) ∧ Z.1 (a + 7) = some (100, 2) ∧ (∀ x, Z.2.1 a 5 x = a + 8) ∧ Z.1 (a + 8) = some (100, 8)
theorem sh5_z {kad : Nat → Nat} {Z : AZ} {a : Nat} (h : sh5 kad Z a) : Z.1 a = some (5, 6) := h.1
theorem sh5_r0 {kad : Nat → Nat} {Z : AZ} {a : Nat} (h : sh5 kad Z a) : ∀ x, Z.2.1 a 0 x = a + 1 := h.2.1
theorem sh5_s0 {kad : Nat → Nat} {Z : AZ} {a : Nat} (h : sh5 kad Z a) : sh2 kad Z (a + 1) := h.2.2.1
theorem sh5_r2 {kad : Nat → Nat} {Z : AZ} {a : Nat} (h : sh5 kad Z a) : ∀ x, Z.2.1 a 2 x = a + 6 := h.2.2.2.1
theorem sh5_a2 {kad : Nat → Nat} {Z : AZ} {a : Nat} (h : sh5 kad Z a) : Z.1 (a + 6) = some (100, 2) := h.2.2.2.2.1
theorem sh5_r3 {kad : Nat → Nat} {Z : AZ} {a : Nat} (h : sh5 kad Z a) : ∀ x, Z.2.1 a 3 x = a + 7 := h.2.2.2.2.2.1
theorem sh5_a3 {kad : Nat → Nat} {Z : AZ} {a : Nat} (h : sh5 kad Z a) : Z.1 (a + 7) = some (100, 2) := h.2.2.2.2.2.2.1
theorem sh5_r5 {kad : Nat → Nat} {Z : AZ} {a : Nat} (h : sh5 kad Z a) : ∀ x, Z.2.1 a 5 x = a + 8 := h.2.2.2.2.2.2.2.1
theorem sh5_a5 {kad : Nat → Nat} {Z : AZ} {a : Nat} (h : sh5 kad Z a) : Z.1 (a + 8) = some (100, 8) := h.2.2.2.2.2.2.2.2
def sh6 (kad : Nat → Nat) (Z : AZ) (a : Nat) : Prop := Z.1 a = some (6, 3) ∧ (∀ x, Z.2.1 a 1 x = a + 1) ∧ Z.1 (a + 1) = some (100, 20) ∧ (∀ x, Z.2.1 a 2 x = a + 2) ∧ Z.1 (a + 2) = some (100, 20)
theorem sh6_z {kad : Nat → Nat} {Z : AZ} {a : Nat} (h : sh6 kad Z a) : Z.1 a = some (6, 3) := h.1
theorem sh6_r1 {kad : Nat → Nat} {Z : AZ} {a : Nat} (h : sh6 kad Z a) : ∀ x, Z.2.1 a 1 x = a + 1 := h.2.1
theorem sh6_a1 {kad : Nat → Nat} {Z : AZ} {a : Nat} (h : sh6 kad Z a) : Z.1 (a + 1) = some (100, 20) := h.2.2.1
theorem sh6_r2 {kad : Nat → Nat} {Z : AZ} {a : Nat} (h : sh6 kad Z a) : ∀ x, Z.2.1 a 2 x = a + 2 := h.2.2.2.1
theorem sh6_a2 {kad : Nat → Nat} {Z : AZ} {a : Nat} (h : sh6 kad Z a) : Z.1 (a + 2) = some (100, 20) := h.2.2.2.2
def sh8 (kad : Nat → Nat) (Z : AZ) (a : Nat) : Prop := Z.1 a = some (8, 8) ∧ (∀ x, Z.2.1 a 0 x = a + 1) ∧ sh2 kad Z (a + 1) ∧ (∀ x, Z.2.1 a 1 x = a + 6) ∧ Z.1 (a + 6) = some (100, 256) ∧ (∀ x, Z.2.1 a 2 x = a + 7) ∧ Z.1 (a + 7) = some (100, 60) ∧ (∀ x, Z.2.1 a 3 x = a + 8) ∧ sh3 kad Z (a + 8) ∧ (∀ x, Z.2.1 a 4 x = a + 10) ∧ sh6 kad Z (a + 10) ∧ (∀ x, Z.2.1 a 5 x = a + 13) ∧ sh1 kad Z (a + 13) ∧ (∀ x, Z.2.1 a 6 x = a + 16) ∧ Z.1 (a + 16) = some (100, 8) ∧ (∀ x, sh5 kad Z (Z.2.1 a 7 x))
theorem sh8_z {kad : Nat → Nat} {Z : AZ} {a : Nat} (h : sh8 kad Z a) : Z.1 a = some (8, 8) := h.1
theorem sh8_r0 {kad : Nat → Nat} {Z : AZ} {a : Nat} (h : sh8 kad Z a) : ∀ x, Z.2.1 a 0 x = a + 1 := h.2.1
theorem sh8_s0 {kad : Nat → Nat} {Z : AZ} {a : Nat} (h : sh8 kad Z a) : sh2 kad Z (a + 1) := h.2.2.1
theorem sh8_r1 {kad : Nat → Nat} {Z : AZ} {a : Nat} (h : sh8 kad Z a) : ∀ x, Z.2.1 a 1 x = a + 6 := h.2.2.2.1
theorem sh8_a1 {kad : Nat → Nat} {Z : AZ} {a : Nat} (h : sh8 kad Z a) : Z.1 (a + 6) = some (100, 256) := h.2.2.2.2.1
theorem sh8_r2 {kad : Nat → Nat} {Z : AZ} {a : Nat} (h : sh8 kad Z a) : ∀ x, Z.2.1 a 2 x = a + 7 := h.2.2.2.2.2.1
theorem sh8_a2 {kad : Nat → Nat} {Z : AZ} {a : Nat} (h : sh8 kad Z a) : Z.1 (a + 7) = some (100, 60) := h.2.2.2.2.2.2.1
theorem sh8_r3 {kad : Nat → Nat} {Z : AZ} {a : Nat} (h : sh8 kad Z a) : ∀ x, Z.2.1 a 3 x = a + 8 := h.2.2.2.2.2.2.2.1
theorem sh8_s3 {kad : Nat → Nat} {Z : AZ} {a : Nat} (h : sh8 kad Z a) : sh3 kad Z (a + 8) := h.2.2.2.2.2.2.2.2.1
theorem sh8_r4 {kad : Nat → Nat} {Z : AZ} {a : Nat} (h : sh8 kad Z a) : ∀ x, Z.2.1 a 4 x = a + 10 := h.2.2.2.2.2.2.2.2.2.1
theorem sh8_s4 {kad : Nat → Nat} {Z : AZ} {a : Nat} (h : sh8 kad Z a) : sh6 kad Z (a + 10) := h.2.2.2.2.2.2.2.2.2.2.1
theorem sh8_r5 {kad : Nat → Nat} {Z : AZ} {a : Nat} (h : sh8 kad Z a) : ∀ x, Z.2.1 a 5 x = a + 13 := h.2.2.2.2.2.2.2.2.2.2.2.1
theorem sh8_s5 {kad : Nat → Nat} {Z : AZ} {a : Nat} (h : sh8 kad Z a) : sh1 kad Z (a + 13) := h.2.2.2.2.2.2.2.2.2.2.2.2.1
theorem sh8_r6 {kad : Nat → Nat} {Z : AZ} {a : Nat} (h : sh8 kad Z a) : ∀ x, Z.2.1 a 6 x = a + 16 := h.2.2.2.2.2.2.2.2.2.2.2.2.2.1
theorem sh8_a6 {kad : Nat → Nat} {Z : AZ} {a : Nat} (h : sh8 kad Z a) : Z.1 (a + 16) = some (100, 8) := h.2.2.2.2.2.2.2.2.2.2.2.2.2.2.1
theorem sh8_k {kad : Nat → Nat} {Z : AZ} {a : Nat} (h : sh8 kad Z a) : ∀ x, sh5 kad Z (Z.2.1 a 7 x) := h.2.2.2.2.2.2.2.2.2.2.2.2.2.2.2
def sh9 (kad : Nat → Nat) (Z : AZ) (a : Nat) : Prop := Z.1 a = some (9, 10) ∧ (∀ x, Z.2.1 a 3 x = a + 1) ∧ Z.1 (a + 1) = some (100, 6) ∧ (∀ x, Z.2.1 a 4 x = a + 2) ∧ Z.1 (a + 2) = some (100, 6)
theorem sh9_z {kad : Nat → Nat} {Z : AZ} {a : Nat} (h : sh9 kad Z a) : Z.1 a = some (9, 10) := h.1
theorem sh9_r3 {kad : Nat → Nat} {Z : AZ} {a : Nat} (h : sh9 kad Z a) : ∀ x, Z.2.1 a 3 x = a + 1 := h.2.1
theorem sh9_a3 {kad : Nat → Nat} {Z : AZ} {a : Nat} (h : sh9 kad Z a) : Z.1 (a + 1) = some (100, 6) := h.2.2.1
theorem sh9_r4 {kad : Nat → Nat} {Z : AZ} {a : Nat} (h : sh9 kad Z a) : ∀ x, Z.2.1 a 4 x = a + 2 := h.2.2.2.1
theorem sh9_a4 {kad : Nat → Nat} {Z : AZ} {a : Nat} (h : sh9 kad Z a) : Z.1 (a + 2) = some (100, 6) := h.2.2.2.2
def sh10 (kad : Nat → Nat) (Z : AZ) (a : Nat) : Prop := Z.1 a = some (10, 13) ∧ (∀ x, Z.2.1 a 0 x = a + 1) ∧ sh0 kad Z (a + 1) ∧ (∀ x, Z.2.1 a 1 x = a + 113) ∧ Z.1 (a + 113) = some (100, 256) ∧ (∀ x, Z.2.1 a 3 x = a + 114) ∧ sh8 kad Z (a + 114) ∧ (∀ x, Z.2.1 a 4 x = a + 140) ∧ Z.1 (a + 140) = some (103, 200) ∧ (∀ j, j < 200 → ∀ x, Z.2.1 (a + 140) j x = a + (182 + 9 * j)) ∧ (∀ j, j < 200 → sh5 kad Z (a + (182 + 9 * j))) ∧ (∀ x, Z.2.1 a 6 x = a + 141) ∧ Z.1 (a + 141) = some (100, 256) ∧ (∀ x, Z.2.1 a 7 x = a + 142) ∧ Z.1 (a + 142) = some (100, 256) ∧ (∀ x, Z.2.1 a 8 x = a + 143) ∧ sh8 kad Z (a + 143) ∧ (∀ x, Z.2.1 a 9 x = a + 169) ∧ sh5 kad Z (a + 169) ∧ (∀ x, Z.2.1 a 10 x = a + 178) ∧ sh9 kad Z (a + 178) ∧ (∀ x, Z.2.1 a 11 x = a + 181) ∧ Z.1 (a + 181) = some (105, 5) ∧ (∀ j, j < 5 → ∀ x, Z.2.1 (a + 181) j x = a + (1982 + 3 * j)) ∧ (∀ j, j < 5 → sh9 kad Z (a + (1982 + 3 * j)))
theorem sh10_z {kad : Nat → Nat} {Z : AZ} {a : Nat} (h : sh10 kad Z a) : Z.1 a = some (10, 13) := h.1
theorem sh10_r0 {kad : Nat → Nat} {Z : AZ} {a : Nat} (h : sh10 kad Z a) : ∀ x, Z.2.1 a 0 x = a + 1 := h.2.1
theorem sh10_s0 {kad : Nat → Nat} {Z : AZ} {a : Nat} (h : sh10 kad Z a) : sh0 kad Z (a + 1) := h.2.2.1
theorem sh10_r1 {kad : Nat → Nat} {Z : AZ} {a : Nat} (h : sh10 kad Z a) : ∀ x, Z.2.1 a 1 x = a + 113 := h.2.2.2.1
theorem sh10_a1 {kad : Nat → Nat} {Z : AZ} {a : Nat} (h : sh10 kad Z a) : Z.1 (a + 113) = some (100, 256) := h.2.2.2.2.1
theorem sh10_r3 {kad : Nat → Nat} {Z : AZ} {a : Nat} (h : sh10 kad Z a) : ∀ x, Z.2.1 a 3 x = a + 114 := h.2.2.2.2.2.1
theorem sh10_s3 {kad : Nat → Nat} {Z : AZ} {a : Nat} (h : sh10 kad Z a) : sh8 kad Z (a + 114) := h.2.2.2.2.2.2.1
theorem sh10_r4 {kad : Nat → Nat} {Z : AZ} {a : Nat} (h : sh10 kad Z a) : ∀ x, Z.2.1 a 4 x = a + 140 := h.2.2.2.2.2.2.2.1
theorem sh10_a4 {kad : Nat → Nat} {Z : AZ} {a : Nat} (h : sh10 kad Z a) : Z.1 (a + 140) = some (103, 200) := h.2.2.2.2.2.2.2.2.1
theorem sh10_e4 {kad : Nat → Nat} {Z : AZ} {a : Nat} (h : sh10 kad Z a) : ∀ j, j < 200 → ∀ x, Z.2.1 (a + 140) j x = a + (182 + 9 * j) := h.2.2.2.2.2.2.2.2.2.1
theorem sh10_f4 {kad : Nat → Nat} {Z : AZ} {a : Nat} (h : sh10 kad Z a) : ∀ j, j < 200 → sh5 kad Z (a + (182 + 9 * j)) := h.2.2.2.2.2.2.2.2.2.2.1
theorem sh10_r6 {kad : Nat → Nat} {Z : AZ} {a : Nat} (h : sh10 kad Z a) : ∀ x, Z.2.1 a 6 x = a + 141 := h.2.2.2.2.2.2.2.2.2.2.2.1
theorem sh10_a6 {kad : Nat → Nat} {Z : AZ} {a : Nat} (h : sh10 kad Z a) : Z.1 (a + 141) = some (100, 256) := h.2.2.2.2.2.2.2.2.2.2.2.2.1
theorem sh10_r7 {kad : Nat → Nat} {Z : AZ} {a : Nat} (h : sh10 kad Z a) : ∀ x, Z.2.1 a 7 x = a + 142 := h.2.2.2.2.2.2.2.2.2.2.2.2.2.1
theorem sh10_a7 {kad : Nat → Nat} {Z : AZ} {a : Nat} (h : sh10 kad Z a) : Z.1 (a + 142) = some (100, 256) := h.2.2.2.2.2.2.2.2.2.2.2.2.2.2.1
theorem sh10_r8 {kad : Nat → Nat} {Z : AZ} {a : Nat} (h : sh10 kad Z a) : ∀ x, Z.2.1 a 8 x = a + 143 := h.2.2.2.2.2.2.2.2.2.2.2.2.2.2.2.1
theorem sh10_s8 {kad : Nat → Nat} {Z : AZ} {a : Nat} (h : sh10 kad Z a) : sh8 kad Z (a + 143) := h.2.2.2.2.2.2.2.2.2.2.2.2.2.2.2.2.1
theorem sh10_r9 {kad : Nat → Nat} {Z : AZ} {a : Nat} (h : sh10 kad Z a) : ∀ x, Z.2.1 a 9 x = a + 169 := h.2.2.2.2.2.2.2.2.2.2.2.2.2.2.2.2.2.1
theorem sh10_s9 {kad : Nat → Nat} {Z : AZ} {a : Nat} (h : sh10 kad Z a) : sh5 kad Z (a + 169) := h.2.2.2.2.2.2.2.2.2.2.2.2.2.2.2.2.2.2.1
theorem sh10_r10 {kad : Nat → Nat} {Z : AZ} {a : Nat} (h : sh10 kad Z a) : ∀ x, Z.2.1 a 10 x = a + 178 := h.2.2.2.2.2.2.2.2.2.2.2.2.2.2.2.2.2.2.2.1
theorem sh10_s10 {kad : Nat → Nat} {Z : AZ} {a : Nat} (h : sh10 kad Z a) : sh9 kad Z (a + 178) := h.2.2.2.2.2.2.2.2.2.2.2.2.2.2.2.2.2.2.2.2.1
theorem sh10_r11 {kad : Nat → Nat} {Z : AZ} {a : Nat} (h : sh10 kad Z a) : ∀ x, Z.2.1 a 11 x = a + 181 := h.2.2.2.2.2.2.2.2.2.2.2.2.2.2.2.2.2.2.2.2.2.1
theorem sh10_a11 {kad : Nat → Nat} {Z : AZ} {a : Nat} (h : sh10 kad Z a) : Z.1 (a + 181) = some (105, 5) := h.2.2.2.2.2.2.2.2.2.2.2.2.2.2.2.2.2.2.2.2.2.2.1
theorem sh10_e11 {kad : Nat → Nat} {Z : AZ} {a : Nat} (h : sh10 kad Z a) : ∀ j, j < 5 → ∀ x, Z.2.1 (a + 181) j x = a + (1982 + 3 * j) := h.2.2.2.2.2.2.2.2.2.2.2.2.2.2.2.2.2.2.2.2.2.2.2.1
theorem sh10_f11 {kad : Nat → Nat} {Z : AZ} {a : Nat} (h : sh10 kad Z a) : ∀ j, j < 5 → sh9 kad Z (a + (1982 + 3 * j)) := h.2.2.2.2.2.2.2.2.2.2.2.2.2.2.2.2.2.2.2.2.2.2.2.2
/-! steps at known places -/
def ixA (n : Nat) (i : Int32) : Option Nat := if ¬ (i < 0 ∨ n ≤ i.toNatClampNeg) then some i.toNatClampNeg else none
def wI (I : AI) (a k : Nat) (x : Int32) : Option AI := some (up2 I a k x)
def wB (I : AI) (a k : Nat) (x : Int32) : Option AI := if x = 0 ∨ x = 1 then some (up2 I a k x) else none
def cA (I : AI) (a0 n0 : Nat) (sp : Int32) (a1 n1 : Nat) (dp n : Int32) : Option AI := if (¬ sp < 0 ∧ ¬ dp < 0 ∧ ¬ n < 0) ∧ (sp.toNatClampNeg + n.toNatClampNeg ≤ n0 ∧ dp.toNatClampNeg + n.toNatClampNeg ≤ n1) then some (cpI I a0 a1 sp.toNatClampNeg dp.toNatClampNeg n.toNatClampNeg) else none
section FL
variable {Z : AZ} {I J : AI} {a b ci k n j : Nat} {i x : Int32}
theorem ixA_lt (h : ixA n i = some j) : j < n := by
  unfold ixA at h
  split at h
  · rename_i hc
    cases h
    exact Nat.lt_of_not_le (fun h2 => hc (Or.inr h2))
  · cases h
theorem gI_of (h : Z.1 a = some (ci, n)) : gI Z I ci k a = some (I a k) := by
  simp only [gI, h, if_true]
theorem gR_of (h : Z.1 a = some (ci, n)) (hr : ∀ x, Z.2.1 a k x = b) : gR Z I ci k a = some b := by
  simp only [gR, h, if_true, hr]
theorem gR_of2 (h : Z.1 a = some (ci, n)) (hr : Z.2.1 a k (I a k) = b) : gR Z I ci k a = some b := by
  simp only [gR, h, if_true, hr]
theorem pI_of (h : Z.1 a = some (ci, n)) (hw : wI I a k x = some J) : pI Z I ci k a x = some J := by
  simp only [pI, h, if_true]
  exact hw
theorem pB_of (h : Z.1 a = some (ci, n)) (hw : wB I a k x = some J) : pB Z I ci k a x = some J := by
  simp only [pB, h, true_and]
  exact hw
theorem pB_lit (h : Z.1 a = some (ci, n)) (hx : x = 0 ∨ x = 1) (hw : wI I a k x = some J) : pB Z I ci k a x = some J := by
  simp only [pB, h, true_and]
  rw [if_pos hx]
  exact hw
theorem lI_of {kd : Nat} (h : Z.1 a = some (kd, n)) (hj : ixA n i = some j) : lI Z I kd a i = some (I a j) := by
  unfold ixA at hj
  split at hj
  · rename_i hc
    cases hj
    simp only [lI, h]
    rw [if_pos ⟨trivial, hc⟩]
  · cases hj
theorem sI_of (h : Z.1 a = some (100, n)) (hj : ixA n i = some j) (hw : wI I a j x = some J) : sI Z I 100 a i x = some J := by
  unfold ixA at hj
  split at hj
  · rename_i hc
    cases hj
    simp only [sI, h]
    rw [if_pos ⟨trivial, hc, fun h => absurd h (by decide)⟩]
    exact hw
  · cases hj
theorem sB_of (h : Z.1 a = some (101, n)) (hj : ixA n i = some j) (hw : wB I a j x = some J) : sI Z I 101 a i x = some J := by
  unfold ixA at hj
  unfold wB at hw
  split at hj
  · rename_i hc
    cases hj
    split at hw
    · rename_i h01
      simp only [sI, h]
      rw [if_pos ⟨trivial, hc, fun _ => h01⟩]
      exact hw
    · cases hw
  · cases hj
theorem lR_of {kd : Nat} (h : Z.1 a = some (kd, n)) (hk : 103 ≤ kd ∧ kd ≤ 105) (hj : ixA n i = some j) (hr : ∀ x, Z.2.1 a j x = b) : lR Z I a i = some b := by
  unfold ixA at hj
  split at hj
  · rename_i hc
    cases hj
    simp only [lR, h]
    rw [if_pos ⟨hk, hc⟩, hr]
  · cases hj
theorem nL_of {kd : Nat} (h : Z.1 a = some (kd, n)) (hk : 100 ≤ kd ∧ kd ≤ 105) : nL Z a = some (Int32.ofNat n) := by
  simp only [nL, h]
  rw [if_pos hk]
theorem cI_of {n0 n1 : Nat} {sp dp m : Int32} (h0 : Z.1 a = some (100, n0)) (h1 : Z.1 b = some (100, n1)) (hc : cA I a n0 sp b n1 dp m = some J) : cI Z I a sp b dp m = some J := by
  simp only [cI, h0, h1]
  unfold cA at hc
  split at hc
  · rename_i hh
    rw [if_pos ⟨⟨trivial, trivial⟩, hh⟩]
    exact hc
  · cases hc
theorem isK_of (h : Z.1 a = some (ci, n)) : isK Z a ci = some () := by
  simp only [isK, h, if_true]
end FL
