theorem hin0 : ∀ w ∈ u_ws RX0 TX0 7, w ∈ TB := by
  intro w hw
  obtain ⟨k, hk, rfl⟩ := List.mem_map.mp hw
  have hk := List.mem_range.mp hk
  match k, hk with
  | 0, _ => exact tbm 156 (by decide +kernel) rfl
  | 1, _ => exact tbm 158 (by decide +kernel) rfl
  | 2, _ => exact tbm 160 (by decide +kernel) rfl
  | 3, _ => exact tbm 162 (by decide +kernel) rfl
  | 4, _ => exact tbm 164 (by decide +kernel) rfl
  | 5, _ => exact tbm 166 (by decide +kernel) rfl
  | 6, _ => exact tbm 168 (by decide +kernel) rfl
  | k + 7, h => omega
theorem hin1 : ∀ w ∈ u_ws RX1 TX1 10, w ∈ TB := by
  intro w hw
  obtain ⟨k, hk, rfl⟩ := List.mem_map.mp hw
  have hk := List.mem_range.mp hk
  match k, hk with
  | 0, _ => exact tbm 245 (by decide +kernel) rfl
  | 1, _ => exact tbm 247 (by decide +kernel) rfl
  | 2, _ => exact tbm 249 (by decide +kernel) rfl
  | 3, _ => exact tbm 251 (by decide +kernel) rfl
  | 4, _ => exact tbm 253 (by decide +kernel) rfl
  | 5, _ => exact tbm 255 (by decide +kernel) rfl
  | 6, _ => exact tbm 257 (by decide +kernel) rfl
  | 7, _ => exact tbm 259 (by decide +kernel) rfl
  | 8, _ => exact tbm 261 (by decide +kernel) rfl
  | 9, _ => exact tbm 263 (by decide +kernel) rfl
  | k + 10, h => omega
theorem hin2 : ∀ w ∈ u_ws RX2 TX2 4, w ∈ TB := by
  intro w hw
  obtain ⟨k, hk, rfl⟩ := List.mem_map.mp hw
  have hk := List.mem_range.mp hk
  match k, hk with
  | 0, _ => exact tbm 207 (by decide +kernel) rfl
  | 1, _ => exact tbm 209 (by decide +kernel) rfl
  | 2, _ => exact tbm 211 (by decide +kernel) rfl
  | 3, _ => exact tbm 213 (by decide +kernel) rfl
  | k + 4, h => omega
theorem hin3 : ∀ w ∈ u_ws RX3 TX3 4, w ∈ TB := by
  intro w hw
  obtain ⟨k, hk, rfl⟩ := List.mem_map.mp hw
  have hk := List.mem_range.mp hk
  match k, hk with
  | 0, _ => exact tbm 112 (by decide +kernel) rfl
  | 1, _ => exact tbm 114 (by decide +kernel) rfl
  | 2, _ => exact tbm 116 (by decide +kernel) rfl
  | 3, _ => exact tbm 118 (by decide +kernel) rfl
  | k + 4, h => omega
theorem hin4 : ∀ w ∈ u_ws RX4 TX4 3, w ∈ TB := by
  intro w hw
  obtain ⟨k, hk, rfl⟩ := List.mem_map.mp hw
  have hk := List.mem_range.mp hk
  match k, hk with
  | 0, _ => exact tbm 189 (by decide +kernel) rfl
  | 1, _ => exact tbm 191 (by decide +kernel) rfl
  | 2, _ => exact tbm 193 (by decide +kernel) rfl
  | k + 3, h => omega
theorem hin5 : ∀ w ∈ u_ws RX5 TX5 3, w ∈ TB := by
  intro w hw
  obtain ⟨k, hk, rfl⟩ := List.mem_map.mp hw
  have hk := List.mem_range.mp hk
  match k, hk with
  | 0, _ => exact tbm 132 (by decide +kernel) rfl
  | 1, _ => exact tbm 134 (by decide +kernel) rfl
  | 2, _ => exact tbm 136 (by decide +kernel) rfl
  | k + 3, h => omega
theorem hin6 : ∀ w ∈ u_ws RX6 TX6 12, w ∈ TB := by
  intro w hw
  obtain ⟨k, hk, rfl⟩ := List.mem_map.mp hw
  have hk := List.mem_range.mp hk
  match k, hk with
  | 0, _ => exact tbm 278 (by decide +kernel) rfl
  | 1, _ => exact tbm 280 (by decide +kernel) rfl
  | 2, _ => exact tbm 282 (by decide +kernel) rfl
  | 3, _ => exact tbm 284 (by decide +kernel) rfl
  | 4, _ => exact tbm 286 (by decide +kernel) rfl
  | 5, _ => exact tbm 288 (by decide +kernel) rfl
  | 6, _ => exact tbm 290 (by decide +kernel) rfl
  | 7, _ => exact tbm 292 (by decide +kernel) rfl
  | 8, _ => exact tbm 294 (by decide +kernel) rfl
  | 9, _ => exact tbm 296 (by decide +kernel) rfl
  | 10, _ => exact tbm 298 (by decide +kernel) rfl
  | 11, _ => exact tbm 300 (by decide +kernel) rfl
  | k + 12, h => omega
theorem hin7 : ∀ w ∈ u_ws RX7 TX7 35, w ∈ TB := by
  intro w hw
  obtain ⟨k, hk, rfl⟩ := List.mem_map.mp hw
  have hk := List.mem_range.mp hk
  match k, hk with
  | 0, _ => exact tbm 727 (by decide +kernel) rfl
  | 1, _ => exact tbm 729 (by decide +kernel) rfl
  | 2, _ => exact tbm 731 (by decide +kernel) rfl
  | 3, _ => exact tbm 733 (by decide +kernel) rfl
  | 4, _ => exact tbm 735 (by decide +kernel) rfl
  | 5, _ => exact tbm 737 (by decide +kernel) rfl
  | 6, _ => exact tbm 739 (by decide +kernel) rfl
  | 7, _ => exact tbm 741 (by decide +kernel) rfl
  | 8, _ => exact tbm 743 (by decide +kernel) rfl
  | 9, _ => exact tbm 745 (by decide +kernel) rfl
  | 10, _ => exact tbm 747 (by decide +kernel) rfl
  | 11, _ => exact tbm 749 (by decide +kernel) rfl
  | 12, _ => exact tbm 751 (by decide +kernel) rfl
  | 13, _ => exact tbm 753 (by decide +kernel) rfl
  | 14, _ => exact tbm 755 (by decide +kernel) rfl
  | 15, _ => exact tbm 757 (by decide +kernel) rfl
  | 16, _ => exact tbm 759 (by decide +kernel) rfl
  | 17, _ => exact tbm 761 (by decide +kernel) rfl
  | 18, _ => exact tbm 763 (by decide +kernel) rfl
  | 19, _ => exact tbm 765 (by decide +kernel) rfl
  | 20, _ => exact tbm 767 (by decide +kernel) rfl
  | 21, _ => exact tbm 769 (by decide +kernel) rfl
  | 22, _ => exact tbm 771 (by decide +kernel) rfl
  | 23, _ => exact tbm 773 (by decide +kernel) rfl
  | 24, _ => exact tbm 775 (by decide +kernel) rfl
  | 25, _ => exact tbm 777 (by decide +kernel) rfl
  | 26, _ => exact tbm 779 (by decide +kernel) rfl
  | 27, _ => exact tbm 781 (by decide +kernel) rfl
  | 28, _ => exact tbm 783 (by decide +kernel) rfl
  | 29, _ => exact tbm 785 (by decide +kernel) rfl
  | 30, _ => exact tbm 787 (by decide +kernel) rfl
  | 31, _ => exact tbm 789 (by decide +kernel) rfl
  | 32, _ => exact tbm 791 (by decide +kernel) rfl
  | 33, _ => exact tbm 793 (by decide +kernel) rfl
  | 34, _ => exact tbm 795 (by decide +kernel) rfl
  | k + 35, h => omega
