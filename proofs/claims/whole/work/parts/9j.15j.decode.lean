theorem ax_pd286_1080 : (List.range 2).all (fun j => ax_chI ax_m286 (j + 1080)) = true := by decide +kernel
