-- HOW MANY BITS
def c_pc : Nat → Nat → Nat
  | 0, _ => 0
  | k + 1, m => m % 2 + c_pc k (m / 2)
theorem z_bc0 : ∀ a, a < 16 → ∀ b, b < 256 → s_Jdk_bitCount (nI (256 * a + b)) = some (nI (c_pc 16 (256 * a + b))) := by decide +kernel
theorem z_bc1 : ∀ a, a < 16 → ∀ b, b < 256 → s_Jdk_bitCount (nI (256 * (a + 16) + b)) = some (nI (c_pc 16 (256 * (a + 16) + b))) := by decide +kernel
theorem z_bc2 : ∀ a, a < 16 → ∀ b, b < 256 → s_Jdk_bitCount (nI (256 * (a + 32) + b)) = some (nI (c_pc 16 (256 * (a + 32) + b))) := by decide +kernel
theorem z_bc3 : ∀ a, a < 16 → ∀ b, b < 256 → s_Jdk_bitCount (nI (256 * (a + 48) + b)) = some (nI (c_pc 16 (256 * (a + 48) + b))) := by decide +kernel
theorem z_bc4 : ∀ a, a < 16 → ∀ b, b < 256 → s_Jdk_bitCount (nI (256 * (a + 64) + b)) = some (nI (c_pc 16 (256 * (a + 64) + b))) := by decide +kernel
theorem z_bc5 : ∀ a, a < 16 → ∀ b, b < 256 → s_Jdk_bitCount (nI (256 * (a + 80) + b)) = some (nI (c_pc 16 (256 * (a + 80) + b))) := by decide +kernel
theorem z_bc6 : ∀ a, a < 16 → ∀ b, b < 256 → s_Jdk_bitCount (nI (256 * (a + 96) + b)) = some (nI (c_pc 16 (256 * (a + 96) + b))) := by decide +kernel
theorem z_bc7 : ∀ a, a < 16 → ∀ b, b < 256 → s_Jdk_bitCount (nI (256 * (a + 112) + b)) = some (nI (c_pc 16 (256 * (a + 112) + b))) := by decide +kernel
theorem z_bc8 : ∀ a, a < 16 → ∀ b, b < 256 → s_Jdk_bitCount (nI (256 * (a + 128) + b)) = some (nI (c_pc 16 (256 * (a + 128) + b))) := by decide +kernel
theorem z_bc9 : ∀ a, a < 16 → ∀ b, b < 256 → s_Jdk_bitCount (nI (256 * (a + 144) + b)) = some (nI (c_pc 16 (256 * (a + 144) + b))) := by decide +kernel
theorem z_bc10 : ∀ a, a < 16 → ∀ b, b < 256 → s_Jdk_bitCount (nI (256 * (a + 160) + b)) = some (nI (c_pc 16 (256 * (a + 160) + b))) := by decide +kernel
theorem z_bc11 : ∀ a, a < 16 → ∀ b, b < 256 → s_Jdk_bitCount (nI (256 * (a + 176) + b)) = some (nI (c_pc 16 (256 * (a + 176) + b))) := by decide +kernel
theorem z_bc12 : ∀ a, a < 16 → ∀ b, b < 256 → s_Jdk_bitCount (nI (256 * (a + 192) + b)) = some (nI (c_pc 16 (256 * (a + 192) + b))) := by decide +kernel
theorem z_bc13 : ∀ a, a < 16 → ∀ b, b < 256 → s_Jdk_bitCount (nI (256 * (a + 208) + b)) = some (nI (c_pc 16 (256 * (a + 208) + b))) := by decide +kernel
theorem z_bc14 : ∀ a, a < 16 → ∀ b, b < 256 → s_Jdk_bitCount (nI (256 * (a + 224) + b)) = some (nI (c_pc 16 (256 * (a + 224) + b))) := by decide +kernel
theorem z_bc15 : ∀ a, a < 16 → ∀ b, b < 256 → s_Jdk_bitCount (nI (256 * (a + 240) + b)) = some (nI (c_pc 16 (256 * (a + 240) + b))) := by decide +kernel
section PC
variable {m x y k i : Nat}
theorem z_bitc (hm : m < 65536) : s_Jdk_bitCount (nI m) = some (nI (c_pc 16 m)) := by
  have e : m = 256 * (m / 256) + m % 256 := by omega
  have h : m / 256 < 16 ∨ (16 ≤ m / 256 ∧ m / 256 < 32) ∨ (32 ≤ m / 256 ∧ m / 256 < 48) ∨ (48 ≤ m / 256 ∧ m / 256 < 64) ∨ (64 ≤ m / 256 ∧ m / 256 < 80) ∨ (80 ≤ m / 256 ∧ m / 256 < 96) ∨ (96 ≤ m / 256 ∧ m / 256 < 112) ∨ (112 ≤ m / 256 ∧ m / 256 < 128) ∨ (128 ≤ m / 256 ∧ m / 256 < 144) ∨ (144 ≤ m / 256 ∧ m / 256 < 160) ∨ (160 ≤ m / 256 ∧ m / 256 < 176) ∨ (176 ≤ m / 256 ∧ m / 256 < 192) ∨ (192 ≤ m / 256 ∧ m / 256 < 208) ∨ (208 ≤ m / 256 ∧ m / 256 < 224) ∨ (224 ≤ m / 256 ∧ m / 256 < 240) ∨ (240 ≤ m / 256 ∧ m / 256 < 256) := by omega
  rcases h with h | h | h | h | h | h | h | h | h | h | h | h | h | h | h | h
  · have := z_bc0 (m / 256) h (m % 256) (by omega)
    rw [← e] at this
    exact this
  · have := z_bc1 (m / 256 - 16) (by omega) (m % 256) (by omega)
    rw [show m / 256 - 16 + 16 = m / 256 by omega, ← e] at this
    exact this
  · have := z_bc2 (m / 256 - 32) (by omega) (m % 256) (by omega)
    rw [show m / 256 - 32 + 32 = m / 256 by omega, ← e] at this
    exact this
  · have := z_bc3 (m / 256 - 48) (by omega) (m % 256) (by omega)
    rw [show m / 256 - 48 + 48 = m / 256 by omega, ← e] at this
    exact this
  · have := z_bc4 (m / 256 - 64) (by omega) (m % 256) (by omega)
    rw [show m / 256 - 64 + 64 = m / 256 by omega, ← e] at this
    exact this
  · have := z_bc5 (m / 256 - 80) (by omega) (m % 256) (by omega)
    rw [show m / 256 - 80 + 80 = m / 256 by omega, ← e] at this
    exact this
  · have := z_bc6 (m / 256 - 96) (by omega) (m % 256) (by omega)
    rw [show m / 256 - 96 + 96 = m / 256 by omega, ← e] at this
    exact this
  · have := z_bc7 (m / 256 - 112) (by omega) (m % 256) (by omega)
    rw [show m / 256 - 112 + 112 = m / 256 by omega, ← e] at this
    exact this
  · have := z_bc8 (m / 256 - 128) (by omega) (m % 256) (by omega)
    rw [show m / 256 - 128 + 128 = m / 256 by omega, ← e] at this
    exact this
  · have := z_bc9 (m / 256 - 144) (by omega) (m % 256) (by omega)
    rw [show m / 256 - 144 + 144 = m / 256 by omega, ← e] at this
    exact this
  · have := z_bc10 (m / 256 - 160) (by omega) (m % 256) (by omega)
    rw [show m / 256 - 160 + 160 = m / 256 by omega, ← e] at this
    exact this
  · have := z_bc11 (m / 256 - 176) (by omega) (m % 256) (by omega)
    rw [show m / 256 - 176 + 176 = m / 256 by omega, ← e] at this
    exact this
  · have := z_bc12 (m / 256 - 192) (by omega) (m % 256) (by omega)
    rw [show m / 256 - 192 + 192 = m / 256 by omega, ← e] at this
    exact this
  · have := z_bc13 (m / 256 - 208) (by omega) (m % 256) (by omega)
    rw [show m / 256 - 208 + 208 = m / 256 by omega, ← e] at this
    exact this
  · have := z_bc14 (m / 256 - 224) (by omega) (m % 256) (by omega)
    rw [show m / 256 - 224 + 224 = m / 256 by omega, ← e] at this
    exact this
  · have := z_bc15 (m / 256 - 240) (by omega) (m % 256) (by omega)
    rw [show m / 256 - 240 + 240 = m / 256 by omega, ← e] at this
    exact this
end PC
